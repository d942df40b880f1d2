/-! delays; fewest -/
def cD (c : MC) (f d : Nat) : MC := (c.1, upd c.2.1 f (nI d), c.2.2)
def dVl (c : MC) (S : Nat) (fc af : Nat → Nat) (r : Nat → Int32) (f : Nat) : Nat → Bool := fun d => decide (1 ≤ d) && coB (cD c f d) S fc af r
def pDl (f o i : Nat) : Bool := scR o i || decide (o = 216 ∧ i = f)
theorem call_delays {d e b : Nat} {σ : zS} (x : Int32) (h : Inv b σ) (hb : b < 90000000) : Both (d + 8) 124 [.ref 0, .int x] (e + 228) 267 [.ref 214, .int x] b σ := by
  obtain ⟨c, l, t, ht, hc⟩ := h.ctx
  obtain ⟨S, fc, af, hsq, hsr⟩ := h.hsights
  have h9 := hc.h9
  have hR3 : ∀ σ3, Fr tC σ σ3 → (zup σ3 214 12 0) 214 1 = nI c.1 := fun σ3 f3 => (fr12 (σ := σ3) 214 1 (by decide)).trans ((f3 214 1 (by decide)).trans hc.hR)
  have h215 : ∀ σ3, Fr tC σ σ3 → (zup σ3 214 12 0) 215 = σ 215 := fun σ3 f3 => (tR_215 fr12.rT).trans (tC_215 f3)
  rcases faceC x h9 with hx | ⟨f, hf, rfl⟩
  · refine both_q h (-1) none (fun Q hq => ?_) (fun σ3 f3 Q hq => ?_)
    · refine k_124_0 ?_
      rw [c_isFace0 hc.h14 hx, if_pos rfl]
      exact hq σ Fr.rf
    · refine k_267_0 ?_
      rw [r_isFace0 (hR3 σ3 f3) h9 hx, if_pos rfl]
      exact hq _ fr12
  generalize hP : dVl c S fc af (σ 215) f = p
  have hp : ∀ d, p d = (decide (1 ≤ d) && coB (cD c f d) S fc af (σ 215)) := fun d => by rw [← hP]; rfl
  have b1 : bs p 1 = 0 := by
    rw [bs_1, hp 0]; rfl
  refine both_q h (bs p 10) none (fun Q hq => ?_) (fun σ3 f3 Q hq => ?_)
  · refine k_124_0 ?_
    rw [c_isFace1 hc.h14 h9 hf, if_neg (by decide)]
    have hloop := z_for (F := 9) (P := fun k => ∀ σ1, Fr scC σ σ1 → Z (d + 7) 124 Q 14 [.ref 0, .int (nI f), .int (bs p (k + 1)), .int (nI (k + 1))] [] σ1) (fun k hk ih => ?_) ?_
    · have := hloop σ Fr.rf
      rw [b1] at this
      exact this
    · intro σ1 f1
      refine k_124_14 ?_
      rw [if_neg (show ¬ (9 : Int32) < nI (k + 1) from nI_nlt (a := 9) (by omega) (by omega))]
      refine c_take2 hc f1.cT (fun σ2 f2 p2 => ?_)
      rw [if_pos (zin_nI (by omega) (by decide)), zcl (by omega), show nI (k + 1) + (1 : Int32) = nI (k + 1 + 1) from nI_add _ 1]
      obtain ⟨p1', p2', ⟨k1, k2, k3, k4, k5, k6⟩, p4', p5'⟩ := p2
      have hPC : PC (cD c f (k + 1)) l t (σ 215) (zup σ2 24 f (nI (k + 1))) := by
        have o : ∀ o i, o ≠ 24 → (zup σ2 24 f (nI (k + 1))) o i = σ2 o i := fun o i q => by rw [zup_eq, zput_app, if_neg q]
        refine ⟨p1', ⟨(o 3 2 (by decide)).trans p2'.1, fun i hi => (o 5 i (by decide)).trans (p2'.2.1 i hi), p2'.2.2.1, p2'.2.2.2⟩, ⟨(o 23 3 (by decide)).trans k1, k2, fun g hg => ⟨?_, (o 25 g (by decide)).trans (k3 g hg).2⟩, (o 3 5 (by decide)).trans k4, k5, fun i q => (o 7 i (by decide)).trans (k6 i q)⟩, CM.ag p4' (fun o' i q1 q2 => o o' i (by omega)), p5'⟩
        show (zup σ2 24 f (nI (k + 1))) 24 g = upd c.2.1 f (nI (k + 1)) g
        rw [zup_eq, zput_app, if_pos rfl]
        by_cases q : g = f
        · rw [q, upd_eq, upd_eq]
        · rw [upd_ne q, upd_ne q]; exact (k3 g hg).1
      have f12 := Fr.tr f1 f2
      have f13 : Fr scC σ (zup σ2 24 f (nI (k + 1))) := Fr.tr f12 (Fr.up rfl)
      have hs3 : SQ S fc af (zup σ2 24 f (nI (k + 1))) := hsq.ag (fun o i q1 q2 => f13 o i (by
        unfold scC scr
        rw [Bool.and_eq_false_iff, decide_eq_false_iff_not, decide_eq_false_iff_not]
        exact Or.inr (by omega)))
      refine c_comeOn (c := cD c f (k + 1)) hPC hs3 (by omega) (fun σ4 f4 => ?_)
      have f14 := Fr.tr f13 f4.spw
      rw [bs_1, hp (k + 1), decide_eq_true (show 1 ≤ k + 1 by omega), Bool.true_and] at ih
      cases hco : coB (cD c f (k + 1)) S fc af (σ 215)
      · rw [hco] at ih
        rw [if_pos (show b2i false = 0 from rfl)]
        exact ih σ4 f14
      · rw [hco] at ih
        rw [if_neg (show ¬ b2i true = 0 by decide), s_bit]
        exact ih σ4 f14
    · intro σ1 f1
      refine k_124_14 ?_
      rw [if_pos (show (9 : Int32) < nI (9 + 1) by decide)]
      exact hq σ1 f1
  · refine k_267_0 ?_
    have hc3 := (hc.fr (FrCT f3)).fr (FrR fr12)
    have e215 := h215 σ3 f3
    rw [r_isFace1 (hR3 σ3 f3) h9 hf, if_neg (by decide), if_pos (zin_nI (by omega) (by decide)), zcl (by omega)]
    obtain ⟨g1, g2, g3, g4, g5, ⟨m1, m2, m3, m4⟩⟩ := pg_of hc3
    have h7 : (zup σ3 214 12 0) 214 7 = 0 := hc3.2.2.2.2.2.2.2.2.2.1
    have hsr3 : SR S fc af (zup σ3 214 12 0) := hsr.ag (f3 214 46 (by decide)) (fun i => f3 233 i (by simp [tC]))
    have hq3 : ∀ σ2, Fr scR (zup σ3 214 12 0) σ2 → Q (bs p 10) σ2 := fun σ2 f2 => hq σ2 (Fr.tr fr12 f2)
    generalize (zup σ3 214 12 0) = σ0 at e215 g2 g3 g5 m1 m2 m3 h7 hsr3 hq3
    have z9 : zin (nI f) 9 = true := zin_nI (by omega) (by decide)
    have hloop := z_for (F := 9) (P := fun k => ∀ σ1, Fr (pDl f) σ0 σ1 → Z (e + 227) 267 Q 27 [.ref 214, .int (nI f), .int (σ0 216 f), .int (bs p (k + 1)), .int (nI (k + 1))] [] σ1) (fun k hk ih => ?_) ?_
    · have := hloop σ0 Fr.rf
      rw [b1] at this
      exact this
    · intro σ1 f1
      refine k_267_27 ?_
      rw [if_neg (show ¬ (9 : Int32) < nI (k + 1) from nI_nlt (a := 9) (by omega) (by omega)), if_pos z9, zcl (by omega), show nI (k + 1) + (1 : Int32) = nI (k + 1 + 1) from nI_add _ 1]
      have f2 : Fr (pDl f) σ0 (zup σ1 216 f (nI (k + 1))) := Fr.tr f1 (Fr.up (by
        unfold pDl
        rw [decide_eq_true (show (216 : Nat) = 216 ∧ f = f from ⟨rfl, rfl⟩), Bool.or_true]))
      have o2 : ∀ o i, scR o i = false → (o = 216 → i ≠ f) → (zup σ1 216 f (nI (k + 1))) o i = σ0 o i := fun o i q1 q2 => f2 o i (by
        unfold pDl
        rw [q1, Bool.false_or]
        exact decide_eq_false (fun q => q2 q.1 q.2))
      have r215 : (zup σ1 216 f (nI (k + 1))) 215 = σ 215 := (funext fun i => o2 215 i (by simp [scR, scr]) (fun q => absurd q (by decide))).trans e215
      have pk : (cD c f (k + 1)).2.2.2.1 = rvl l ∧ RRef l (zup σ1 216 f (nI (k + 1))) ∧ (zup σ1 216 f (nI (k + 1))) 214 6 = nI c.2.2.2.2.1 ∧ c.2.2.2.2.1 ≤ 40 ∧ (zup σ1 216 f (nI (k + 1))) 218 = c.2.2.2.2.2 ∧ CKs 226 (cD c f (k + 1)) (zup σ1 216 f (nI (k + 1))) := by
        refine ⟨g1, RRef.ag g2 (o2 214 20 (by decide) (fun q => absurd q (by decide))) (fun i => o2 222 i (by simp [scR, scr]) (fun q => absurd q (by decide))), (o2 214 6 (by decide) (fun q => absurd q (by decide))).trans g3, g4, ?_, (o2 214 1 (by decide) (fun q => absurd q (by decide))).trans m1, ?_, ?_, m4⟩
        · rw [← g5]; exact funext fun i => o2 218 i (by simp [scR, scr]) (fun q => absurd q (by decide))
        · funext i
          show (zup σ1 216 f (nI (k + 1))) 216 i = upd c.2.1 f (nI (k + 1)) i
          by_cases q : i = f
          · rw [q, upd_eq, zup_eq, zput_app, if_pos rfl, upd_eq]
          · rw [upd_ne q, o2 216 i (by simp [scR, scr]) (fun _ => q), m2]
        · show _ = c.2.2.1
          rw [← m3]; exact funext fun i => o2 217 i (by simp [scR, scr]) (fun q => absurd q (by decide))
      refine r_comes (c := cD c f (k + 1)) (t := t) (S := S) (fc := fc) (af := af) pk (by rw [r215]; exact hc.hWR) ((o2 214 7 (by decide) (fun q => absurd q (by decide))).trans h7) (hsr3.ag (o2 214 46 (by decide) (fun q => absurd q (by decide))) (fun i => o2 233 i (by simp [scR, scr]) (fun q => absurd q (by decide)))) (by omega) 0 (fun σ4 f4 => ?_)
      rw [r215, yS_0]
      have f24 : Fr (pDl f) σ0 σ4 := Fr.tr f2 (Fr.mono f4 (fun o i q => by
        unfold pDl at q
        rw [Bool.or_eq_false_iff] at q
        exact q.1))
      rw [bs_1, hp (k + 1), decide_eq_true (show 1 ≤ k + 1 by omega), Bool.true_and] at ih
      cases hco : coB (cD c f (k + 1)) S fc af (σ 215)
      · rw [hco] at ih
        rw [if_pos (show b2i false = 0 from rfl), i_or0]
        exact ih σ4 f24
      · rw [hco] at ih
        rw [if_neg (show ¬ b2i true = 0 by decide)]
        exact ih σ4 f24
    · intro σ1 f1
      refine k_267_27 ?_
      rw [if_pos (show (9 : Int32) < nI (9 + 1) by decide), if_pos z9, zcl (by omega)]
      refine hq3 _ (fun o i q => ?_)
      rw [zup_eq, zput_app]
      by_cases h16 : o = 216
      · subst h16
        rw [if_pos rfl]
        by_cases q2 : i = f
        · rw [q2, upd_eq]
        · rw [upd_ne q2]
          exact f1 216 i (by
            unfold pDl
            rw [q, Bool.false_or]
            exact decide_eq_false (fun q3 => q2 q3.2))
      · rw [if_neg h16]
        exact f1 o i (by
          unfold pDl
          rw [q, Bool.false_or]
          exact decide_eq_false (fun q3 => h16 q3.1))
theorem call_fewest {d e b : Nat} {σ : zS} (h : Inv b σ) (hb : b < 90000000) : Both (d + 8) 125 [.ref 0] (e + 228) 268 [.ref 214] b σ := by
  obtain ⟨c, l, t, ht, hc⟩ := h.ctx
  obtain ⟨S, fc, af, hsq, hsr⟩ := h.hsights
  have h9 := hc.h9
  have h45 : σ 17 5 = σ 215 45 := hc.hcm.2.2.2.1
  obtain ⟨w, hw, ew⟩ := i_small (x := bs (cyw (σ 215)) c.1) (fun f q1 q2 => bs_out h9 (by omega) q2)
  generalize hG : (fun s => coB c S fc af (yS (nI s) (σ 215) c.1)) = G
  have hG1 : ∀ s, G s = coB c S fc af (yS (nI s) (σ 215) c.1) := fun s => by rw [← hG]
  generalize hO : sC w G 512 0 = O
  refine both_q h (okV (-2) (fun s => nI (pcn s)) O) (okT (fun s => (1, tv1 (nI s))) O) (fun Q hq => ?_) (fun σ3 f3 Q hq => ?_)
  · refine k_125_0 ?_
    have ea : ((zshl 1 (nI c.1) - 1) &&& (σ 215 45 ^^^ (-1))) &&& (dueB c.1 (σ 215) ^^^ (-1)) = nI w := by
      rw [← ew]
      refine zb_ext (fun f hf => ?_)
      unfold dueB
      rw [zb_and, zb_and, zb_all c.1 h9 f hf, zb_not hf, zb_not hf, zb_bs (by omega) hf, zb_bs (by omega) hf]
      unfold cyw
      cases decide (f < c.1) <;> cases zb (σ 215 45) f <;> cases decide (σ 215 (18 + f) = -1) <;> rfl
    rw [c_present14, hc.h14, h45, c_waiting17 hc.hcm h9, ea]
    have loop : ∀ m k s σ1, k + m = 512 → s < 512 → Fr scC σ σ1 → sC w G m s = O → Z (d + 7) 125 Q 25 [.ref 0, .int (nI w), .int (nI s), .int (nI k)] [] σ1 := by
      intro m
      induction m with
      | zero =>
        intro k s σ1 hk hs f1 hI
        refine k_125_25 ?_
        rw [if_neg (show ¬ nI k < 512 from nI_nlt (a := k) (b := 512) (by omega) (by omega))]
        have : O = none := by rw [← hI]; rfl
        rw [this] at hq
        exact hq σ1 f1
      | succ m ih =>
        intro k s σ1 hk hs f1 hI
        refine k_125_25 ?_
        rw [if_pos (show nI k < 512 from nI_lt (b := 512) (by omega) (by decide)), if_neg (nI_m1 (by omega))]
        refine c_comesIf hc hsq f1.cT (by omega) _ (fun σ2 f2 => ?_)
        have f12 := Fr.tr f1 f2
        unfold sC at hI
        rw [hG1] at hI
        cases hz : coB c S fc af (yS (nI s) (σ 215) c.1)
        · rw [hz] at hI
          rw [if_pos (show b2i false = 0 from rfl), c_nextSet hs hw, nI_1]
          simp only [Bool.false_eq_true, ↓reduceIte] at hI
          rcases nx_cases hw hs with hn | ⟨s2, h1, h2, h3⟩
          · rw [hn]
            rw [if_pos hn] at hI
            have : O = none := by rw [← hI]
            rw [this] at hq
            refine k_125_25 ?_
            by_cases hlt : nI (k + 1) < (512 : Int32)
            · rw [if_pos hlt, if_pos rfl]; exact hq σ2 f12
            · rw [if_neg hlt]; exact hq σ2 f12
          · rw [h2]
            rw [if_neg (by rw [h2]; exact nI_m1 (by omega)), h2, nI_clamp (by omega)] at hI
            exact ih (k + 1) s2 σ2 (by omega) h1 f12 hI
        · rw [hz] at hI
          have : O = some s := by rw [← hI]; rfl
          rw [this] at hq
          rw [if_neg (show ¬ b2i true = 0 by decide)]
          refine c_tell1 (fun σ3 f3 t3 => ?_)
          rw [s_bitCount, bc_pcn hs]
          exact hq σ3 ⟨by decide, Fr.tr f12.cT f3.sTC, t3⟩
    exact loop 512 0 0 σ (by decide) (by decide) Fr.rf hO
  · refine k_268_0 ?_
    have hc3 := (hc.fr (FrCT f3)).fr (FrR fr12)
    have e215 : (zup σ3 214 12 0) 215 = σ 215 := (tR_215 fr12.rT).trans (tC_215 f3)
    have hsr3 : SR S fc af (zup σ3 214 12 0) := hsr.ag (f3 214 46 (by decide)) (fun i => f3 233 i (by simp [tC]))
    have fq : ∀ {σ2}, Fr scR (zup σ3 214 12 0) σ2 → Fr scR σ3 σ2 := fun f => Fr.tr fr12 f
    rw [r_able hc3.hR h9, e215, ew]
    generalize (zup σ3 214 12 0) = σ0 at hc3 e215 hsr3 fq
    have co : ∀ σ1, Fr scR σ0 σ1 → ∀ (s : Nat) (Q : Int32 → zS → Prop), (∀ σ', Fr scR σ1 σ' → Q (b2i (G s)) σ') → ZC (e + 227) 264 [.ref 214, .int (nI s)] σ1 Q := fun σ1 f1 s Q hq => by
      have hc1 := hc3.fr (FrR f1)
      have e1 : σ1 215 = σ 215 := (tR_215 f1.rT).trans e215
      refine r_comes (S := S) (fc := fc) (af := af) (pg_of hc1) (t := t) (by rw [e1]; exact hc.hWR) hc1.2.2.2.2.2.2.2.2.2.1 (hsr3.ag (sr_46 f1) (fun i => f1 233 i (by simp [scR, scr]))) (by omega) (nI s) (fun σ' f' => ?_)
      rw [e1, ← hG1 s]
      exact hq σ' f'
    have hRO : rC w G (w + 1) = O := by
      rw [← hO, search_eq hw]
      have := rC_stop (w := w) G (512 - (w + 1)) (by omega)
      rw [show w + 1 + (512 - (w + 1)) = 512 by omega] at this
      exact this.symm
    have loop : ∀ m k σ4, k + m = w + 1 → Fr scR σ0 σ4 → Z (e + 227) 268 Q 14 [.ref 214, .int (nI w), .int (oI (rC w G k)), .int (nI k)] [] σ4 := by
      intro m
      induction m with
      | zero =>
        intro k σ4 hk f4
        refine k_268_14 ?_
        rw [if_pos (nI_lt (by omega) (by omega))]
        have hkw : k = w + 1 := by omega
        rw [hkw, hRO]
        cases hOc : O with
        | none =>
          rw [hOc] at hq
          rw [if_pos (show oI none = -1 from rfl)]
          exact hq σ4 (fq f4)
        | some s =>
          rw [hOc] at hq
          have hs : s < 512 := by
            have := rC_min w G (w + 1)
            rw [hRO, hOc] at this
            have := this.1
            omega
          rw [if_neg (show ¬ oI (some s) = -1 from nI_m1 (by omega)), show oI (some s) = nI s from rfl]
          refine r_tell1 (fun σ5 f5 t5 => ?_)
          rw [s_bitCount, bc_pcn hs]
          exact hq σ5 ⟨Fr.tr (fq f4).rT f5.sTR, t5⟩
      | succ m ih =>
        intro k σ4 hk f4
        refine k_268_14 ?_
        rw [if_neg (nI_nlt (by omega) (by omega)), nI_1]
        have hvk : ∀ b, vd w k = b → decide (nI k &&& (nI w ^^^ (-1)) = 0) = b := fun b hb => hb
        cases hv : vd w k
        · have ihn := fun σ5 f5 => ih (k + 1) σ5 (by omega) f5
          rw [rC_nv hv] at ihn
          rw [if_neg (of_decide_eq_false (hvk _ hv))]
          exact ihn σ4 f4
        · rw [if_pos (of_decide_eq_true (hvk _ hv))]
          have good : ∀ (bst : Option Nat), (∀ σ5 (z : Option Nat), Fr scR σ0 σ5 → z = (if G k = true then some k else bst) → Z (e + 227) 268 Q 14 [.ref 214, .int (nI w), .int (oI z), .int (nI (k + 1))] [] σ5) → ZC (e + 227) 264 [.ref 214, .int (nI k)] σ4 (fun v6 s5 => if v6 = 0 then Z (e + 227) 268 Q 14 [.ref 214, .int (nI w), .int (oI bst), .int (nI (k + 1))] [] s5 else Z (e + 227) 268 Q 14 [.ref 214, .int (nI w), .int (nI k), .int (nI (k + 1))] [] s5) := by
            intro bst hz
            refine co σ4 f4 k _ (fun σ5 f5 => ?_)
            cases hg : G k
            · rw [if_pos (show b2i false = 0 from rfl)]
              exact hz σ5 bst (Fr.tr f4 f5) (by rw [hg]; rfl)
            · rw [if_neg (show ¬ b2i true = 0 by decide)]
              exact hz σ5 (some k) (Fr.tr f4 f5) (by rw [hg]; rfl)
          cases hr : rC w G k with
          | none =>
            rw [if_pos (show oI none = -1 from rfl)]
            refine good none (fun σ5 z f5 hz => ?_)
            have ihn := ih (k + 1) σ5 (by omega) f5
            rw [rC_none hv hr, ← hz] at ihn
            exact ihn
          | some s =>
            have hs : s < 512 := by
              have := rC_min w G k
              rw [hr] at this
              have := this.1
              omega
            rw [if_neg (show ¬ oI (some s) = -1 from nI_m1 (by omega)), s_bitCount, bc_pcn (by omega), show oI (some s) = nI s from rfl, s_bitCount, bc_pcn hs]
            have b1 := pcn_le k
            have b2 := pcn_le s
            by_cases hp : pcn k < pcn s
            · rw [if_pos (nI_lt hp (by omega))]
              refine good (some s) (fun σ5 z f5 hz => ?_)
              have ihn := ih (k + 1) σ5 (by omega) f5
              rw [rC_lt hv hr hp, ← hz] at ihn
              exact ihn
            · rw [if_neg (nI_nlt (by omega) (by omega))]
              have ihn := ih (k + 1) σ4 (by omega) f4
              rw [rC_ge hr hp] at ihn
              exact ihn
    exact loop (w + 1) 0 σ0 (by omega) Fr.rf
