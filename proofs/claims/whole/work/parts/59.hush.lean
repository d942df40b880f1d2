/-! hush -/
theorem ms_45 {c : MC} {fr : Bool} {r : Nat → Int32} (h9 : c.1 ≤ 9) : ms c fr r 45 = r 45 := by
  unfold ms
  rw [upd_ne (by decide)]
  have e : r3 c fr r 45 = r 45 := by
    unfold r3
    rw [rc_hi (Or.inr (by decide)) c.1 h9, (ry_hi c.1 h9).1]
  split
  · rw [show rt (r3 c fr r) c.1 45 = r3 c fr r 45 from if_neg (by omega)]; exact e
  · exact e
theorem sW_away {c : MC} {J : Int32} (h9 : c.1 ≤ 9) : ∀ n k (r : Nat → Int32) fa, (∀ f, f < c.1 → zb (r 45) f = true) → (sW c J n k r fa).1 = -1 := by
  intro n
  induction n with
  | zero => intro _ _ _ _; rfl
  | succ n ih =>
    intro k r fa h
    have hy : ysS c false r = 0 := by
      apply zb_ext
      intro f hf
      unfold ysS
      rw [zb_bs (by omega) hf, zb_0]
      by_cases hfF : f < c.1
      · unfold yw; rw [h f hfF]; simp
      · simp [hfF]
    have ht : tru c J r = 0 := by unfold tru; rw [hy]; exact Int32.zero_and
    unfold sW
    rw [if_pos ht]
    exact ih (k + 1) _ _ (fun f hf => by rw [ms_45 h9]; exact h f hf)
/-- the row with a set sent away -/
def snd (r : Nat → Int32) (F : Nat) (x : Int32) : Nat → Int32 := aw (clS r x F) (r 45 ||| x)
theorem snd_WR {F t : Nat} {r : Nat → Int32} (x : Int32) (h9 : F ≤ 9) (h : WR F t r) : WR F t (snd r F x) := aw_WR _ h9 (clS_WR h9 h9 h)
theorem snd_cong {r r' : Nat → Int32} (h : REq r r') (F : Nat) (x : Int32) : REq (snd r F x) (snd r' F x) := by
  unfold snd
  rw [h 45 (by decide)]
  exact aw_cong (clS_cong h x F) _
theorem call_hush {d e b : Nat} {σ : zS} (x : Int32) (h : Inv b σ) (hb : b < 90000000) : Both (d + 7) 114 [.ref 0, .int x] (e + 228) 252 [.ref 214, .int x] b σ := by
  obtain ⟨c, l, t, ht, hc⟩ := h.ctx
  have h9 := hc.h9
  have hj := hc.2.2.2.2.2.2.2.2.2.2
  rcases rngC x 1 300 (by decide) (by decide) with hx | ⟨n, hn1, hn, rfl⟩
  · have hx : x < (1 : Int32) ∨ (300 : Int32) < x := hx
    refine both_q h (-1) none (fun Q hq => ?_) (fun σ3 f3 Q hq => ?_)
    · refine k_114_0 ?_
      rw [s_isIn0 hx, if_pos rfl]
      exact hq σ Fr.rf
    · refine k_252_0 ?_
      rw [r_isMore0 hx, if_pos rfl]
      exact hq _ fr12
  have hall := allN c.1 h9
  have hall5 := all512 h9
  have hpos : 0 < 2 ^ c.1 := Nat.two_pow_pos _
  generalize hA : σ 215 45 = A
  have hwz : ∀ i, i < 32 → zb ((zshl 1 (nI c.1) - 1) &&& (A ^^^ (-1))) i = (decide (i < c.1) && !zb A i) := by
    intro i hi
    rw [zb_and, zb_all _ h9 i hi, zb_not hi]
  obtain ⟨w, hw, ew⟩ := i_small (x := (zshl 1 (nI c.1) - 1) &&& (A ^^^ (-1))) (fun i h1 h2 => by rw [hwz i h2]; simp; omega)
  have hwt : ∀ i, i < 9 → w.testBit i = (decide (i < c.1) && !zb A i) := by
    intro i hi
    rw [← zb_nI (by omega), ← ew, hwz i (by omega)]
  have hwF : ∀ i, i < 9 → w.testBit i = true → i < c.1 := by
    intro i hi hb'
    rw [hwt i hi] at hb'
    simp only [Bool.and_eq_true, decide_eq_true_eq] at hb'
    exact hb'.1
  have hwle : w ≤ 2 ^ c.1 - 1 := by
    have : vd (2 ^ c.1 - 1) w = true := by
      rw [vd_bit hw]
      intro i hi hb'
      have hiF := hwF i hi hb'
      have e1 : zb (zshl 1 (nI c.1) - 1) i = decide (i < c.1) := zb_all c.1 h9 i (by omega)
      rw [hall, zb_nI (by omega)] at e1
      rw [e1]; exact decide_eq_true hiF
    exact vd_le hw this
  generalize hG : (fun s => decide ((sW c (so (nI c.1) c.2.2.1 (σ 214 4) c.1) n 0 (snd (σ 215) c.1 (nI s)) 0).1 = -1)) = G
  have hG1 : ∀ s, G s = decide ((sW c (so (nI c.1) c.2.2.1 (σ 214 4) c.1) n 0 (snd (σ 215) c.1 (nI s)) 0).1 = -1) := fun s => by rw [← hG]
  have hGw : G w = true := by
    rw [hG1]
    refine decide_eq_true (sW_away h9 n 0 _ 0 (fun g hg => ?_))
    unfold snd aw
    rw [upd_eq, zb_or, hA, zb_nI (by omega), hwt g (by omega)]
    cases zb A g <;> simp [hg]
  have hvw : vd w w = true := by rw [vd_bit hw]; exact fun _ _ q => q
  obtain ⟨s0, hs0⟩ : ∃ s0, sC w G 512 0 = some s0 := by
    cases hO : sC w G 512 0 with
    | some s0 => exact ⟨s0, rfl⟩
    | none =>
      have := rC_min w G 512
      rw [← search_eq hw, hO] at this
      have := this w hw hvw
      rw [hGw] at this; cases this
  have hs05 : s0 < 512 := by
    have := rC_min w G 512
    rw [← search_eq hw, hs0] at this
    exact this.1
  have hsub : ∀ s, s < 512 → vd w s = true → Sub c.1 (σ 215) (nI s) := by
    intro s hs hv i hi hz
    rw [zb_nI hi] at hz
    by_cases hi9 : i < 9
    · have := (vd_bit hs).mp hv i hi9 hz
      rw [hwt i hi9] at this
      simp only [Bool.and_eq_true, decide_eq_true_eq, Bool.not_eq_true'] at this
      rw [hA]; exact this
    · rw [tb_out hs (by omega)] at hz; cases hz
  refine both_q h (nI (pcn s0)) (some (1, tv1 (nI s0))) (fun Q hq => ?_) (fun σ3 f3 Q hq => ?_)
  · refine k_114_0 ?_
    rw [show (Value.int 1) = .int (nI 1) from rfl, show (Value.int 300) = .int (nI 300) from rfl, s_isIn1 hn1 hn (by decide), if_neg (by decide)]
    have loop : ∀ m k s (σ1 : zS), k + m = 512 → s < 512 → vd w s = true → sC w G m s = some s0 → Fr scC σ σ1 → Z (d + 6) 114 Q 17 [.ref 0, .int (nI n), .int (nI s), .int (nI k)] [] σ1 := by
      intro m
      induction m with
      | zero => intro k s σ1 hk hs hv hI f1; cases hI
      | succ m ih =>
        intro k s σ1 hk hs hv hI f1
        refine k_114_17 ?_
        rw [if_pos (show nI k < 512 from nI_lt (b := 512) (by omega) (by decide)), if_neg (nI_m1 (by omega))]
        refine c_take2 hc f1.cT (fun σ2 f2 p2 => ?_)
        refine c_send p2 (hsub s hs hv) (fun σ3 f3 p3 => ?_)
        have f13 := Fr.tr f1 (Fr.tr f2 f3)
        refine c_startWithin (n := n) (j := σ 214 4) p3 ((f13 0 13 (by decide)).trans hj) hn (by omega) (fun σ4 f4 _ _ => ?_)
        have f14 := Fr.tr f13 (Fr.sS f4)
        have ers : aw (clS (σ 215) (nI s) c.1) (σ 215 45 ||| nI s) = snd (σ 215) c.1 (nI s) := rfl
        rw [ers]
        unfold sC at hI
        rw [hG1] at hI
        by_cases hz : (sW c (so (nI c.1) c.2.2.1 (σ 214 4) c.1) n 0 (snd (σ 215) c.1 (nI s)) 0).1 = -1
        · rw [if_pos hz]
          rw [decide_eq_true hz] at hI
          have : s = s0 := by simpa using hI
          subst this
          refine c_tell1 (fun σ5 f5 t5 => ?_)
          rw [s_bitCount, bc_pcn hs]
          exact hq σ5 ⟨by decide, Fr.tr f14.cT f5.sTC, t5⟩
        · rw [if_neg hz, c_present14, (tC_14 f14.cT).trans hc.h14, (tC_17 f14.cT).trans hc.h45, hA, ew, c_nextSet hs hw, nI_1]
          rw [decide_eq_false hz] at hI
          simp only [Bool.false_eq_true, ↓reduceIte] at hI
          rcases nx_cases hw hs with hn' | ⟨s2, h1, h2, h3⟩
          · rw [if_pos hn'] at hI; cases hI
          · rw [h2]
            rw [if_neg (by rw [h2]; exact nI_m1 (by omega)), h2, nI_clamp (by omega)] at hI
            exact ih (k + 1) s2 σ4 (by omega) h1 h3 hI f14
    exact loop 512 0 0 σ (by decide) (by decide) (vd0 w) hs0 Fr.rf
  · refine k_252_0 ?_
    rw [r_isMore1 hn1 hn, if_neg (by decide)]
    have hRO : rC w G (2 ^ c.1) = some s0 := by
      rw [← hs0, search_eq hw]
      have e1 := rC_stop (w := w) G (512 - (w + 1)) (by omega)
      rw [show w + 1 + (512 - (w + 1)) = 512 by omega] at e1
      have e2 := rC_stop (w := w) G (2 ^ c.1 - (w + 1)) (by omega)
      rw [show w + 1 + (2 ^ c.1 - (w + 1)) = 2 ^ c.1 by omega] at e2
      rw [e1, e2]
    have hvd : ∀ s, s < 2 ^ c.1 → vd w s = decide (nI s &&& A = 0) := by
      intro s hs
      have hs5 : s < 512 := by omega
      have hb : ∀ b1 b2 : Bool, (b1 = true ↔ b2 = true) → b1 = b2 := by
        intro b1 b2 hh
        cases b1 <;> cases b2 <;> simp_all
      refine hb _ _ ?_
      rw [vd_bit hs5, decide_eq_true_iff]
      constructor
      · intro hh
        apply zb_ext
        intro i hi
        rw [zb_and, zb_0, zb_nI hi]
        cases hz : s.testBit i
        · rfl
        · by_cases hi9 : i < 9
          · have := hh i hi9 hz
            rw [hwt i hi9] at this
            simp only [Bool.and_eq_true, Bool.not_eq_true'] at this
            rw [this.2]; rfl
          · rw [tb_out hs5 (by omega)] at hz; cases hz
      · intro h2 i hi hz
        rw [hwt i hi]
        have hiF : i < c.1 := by
          rcases Nat.lt_or_ge i c.1 with q | q
          · exact q
          · rw [tb_pow hs q] at hz; cases hz
        have hAi : zb A i = false := by
          have : zb (nI s &&& A) i = false := by rw [h2, zb_0]
          rw [zb_and, zb_nI (by omega), hz] at this
          simpa using this
        simp [hiF, hAi]
    have loop : ∀ m k (σ4 : zS), k + m = 2 ^ c.1 → Fr scR σ3 σ4 → ∀ w5, Z (e + 227) 252 Q 18 [.ref 214, .int (nI n), .int (oI (rC w G k)), .int (nI k), w5] [] σ4 := by
      intro m
      induction m with
      | zero =>
        intro k σ4 hk f4 w5
        refine k_252_18 ?_
        have g1 : σ4 214 1 = nI c.1 := (tR_1 f4.rT).trans ((tC_1 f3).trans hc.hR)
        rw [r_all, g1, hall, if_pos (nI_lt (by omega) (by omega))]
        have hkw : k = 2 ^ c.1 := by omega
        rw [hkw, hRO, show oI (some s0) = nI s0 from rfl]
        refine r_tell1 (fun σ5 f5 t5 => ?_)
        rw [s_bitCount, bc_pcn hs05]
        exact hq σ5 ⟨Fr.tr f4.rT f5.sTR, t5⟩
      | succ m ih =>
        intro k σ4 hk f4 w5
        have hk5 : k < 512 := by omega
        refine k_252_18 ?_
        have g1 : σ4 214 1 = nI c.1 := (tR_1 f4.rT).trans ((tC_1 f3).trans hc.hR)
        have g45 : σ4 215 45 = A := by rw [← hA]; exact congrFun ((tR_215 f4.rT).trans (tC_215 f3)) 45
        rw [r_all, g1, hall, if_neg (nI_nlt (by omega) (by omega)), nI_1, g45]
        have hv := hvd k (by omega)
        by_cases hz2 : nI k &&& A = 0
        · rw [if_pos hz2]
          rw [decide_eq_true hz2] at hv
          have good : ∀ bst : Option Nat, rC w G (k + 1) = (if G k = true then some k else bst) → ZC (e + 227) 227 [.ref 214] σ4 (fun _ s7 => Z (e + 227) 252 Q 64 [.ref 214, .int (nI n), .int (oI bst), .int (nI k), .int 0] [] s7) := by
            intro bst hz
            refine r_begin2 hc f3 f4.rT (fun σ5 f5' f5 p5 e7 e4 e5 => ?_)
            have hreq : REq (σ5 226) (σ 215) := fun i hi => e5 i (by omega)
            have hW := p5.2.2.2.2.2.2
            refine z_for (F := c.1) (P := fun g => ∀ σ6, Fr scR σ3 σ6 → Fr (fun o _ => decide (o = 226)) σ5 σ6 → σ6 226 = clS (σ5 226) (nI k) g → PF 226 c l t σ6 → Z (e + 227) 252 Q 64 [.ref 214, .int (nI n), .int (oI bst), .int (nI k), .int (nI g)] [] σ6) (fun g hg ihg => ?_) ?_ σ5 (Fr.tr f4 f5) Fr.rf (clS_0 _ _).symm p5
            · intro σ6 f6 f56 e6 p6
              refine k_252_64 ?_
              rw [p6.2.2.2.2.2.1.1, if_pos (nI_lt hg (by omega)), s_hasR _ (by omega), nI_1]
              have e1 := clS_1 (σ5 226) (nI k) (k := g) (by omega)
              cases hzg : zb (nI k) g
              · rw [if_pos (by decide)]
                rw [hzg] at e1
                exact ihg σ6 f6 f56 (by rw [e1]; exact e6) p6
              · rw [if_neg (by decide), r_clear226 (by omega)]
                rw [hzg, if_pos rfl, ← e6] at e1
                have e2 : upd (upd (upd (σ6 226) (18 + g) (-1)) (27 + g) (-1)) (36 + g) 0 = clS (σ5 226) (nI k) (g + 1) := by rw [e1]; rfl
                rw [e2]
                exact ihg _ (Fr.tr f6 fr226) (Fr.tr f56 (Fr.put (fun i q => by simp at q))) e226 (p6.set (clS_WR (by omega) h9 hW))
            · intro σ6 f6 f56 e6 p6
              refine k_252_64 ?_
              rw [p6.2.2.2.2.2.1.1, if_neg (nI_nlt (Nat.le_refl _) (by omega))]
              have e45 : σ6 226 45 = σ5 226 45 := by rw [e6, clS_hi h9 (by omega)]
              have e1 : zup σ6 226 45 (σ6 226 45 ||| nI k) = zput σ6 226 (snd (σ5 226) c.1 (nI k)) := by rw [zup_eq, e45, e6]; rfl
              rw [e1]
              have p8 : PF 226 c l t (zput σ6 226 (snd (σ5 226) c.1 (nI k))) := p6.set (snd_WR _ h9 hW)
              have k7 : (zput σ6 226 (snd (σ5 226) c.1 (nI k))) 214 7 = 0 := by
                simp only [zput_app, Nat.reduceEqDiff, ↓reduceIte]; exact (f56 214 7 (by decide)).trans e7
              have kj : (zput σ6 226 (snd (σ5 226) c.1 (nI k))) 214 4 = σ 214 4 := by
                simp only [zput_app, Nat.reduceEqDiff, ↓reduceIte]; exact (f56 214 4 (by decide)).trans e4
              refine r_findStart (n := n) (j := σ 214 4) p8 k7 kj hn (by omega) (fun σ9 f9 _ => ?_)
              rw [e226, sW_cong h9 n 0 _ _ 0 (snd_cong hreq c.1 (nI k))]
              rw [hG1] at hz
              have ihn := ih (k + 1) σ9 (by omega) (Fr.tr f6 (Fr.tr fr226 (Fr.sRS f9)))
              rw [hz] at ihn
              by_cases hz3 : (sW c (so (nI c.1) c.2.2.1 (σ 214 4) c.1) n 0 (snd (σ 215) c.1 (nI k)) 0).1 = -1
              · rw [if_pos hz3, nI_1]
                rw [decide_eq_true hz3] at ihn
                exact ihn _
              · rw [if_neg hz3, nI_1]
                rw [decide_eq_false hz3] at ihn
                exact ihn _
          cases hr : rC w G k with
          | none =>
            rw [if_pos (show oI none = -1 from rfl)]
            exact good none (rC_none hv hr)
          | some s =>
            have hs : s < 512 := by
              have := rC_min w G k
              rw [hr] at this
              have := this.1
              omega
            rw [if_neg (show ¬ oI (some s) = -1 from nI_m1 (by omega)), s_bitCount, bc_pcn hk5, show oI (some s) = nI s from rfl, s_bitCount, bc_pcn hs]
            have b1 := pcn_le k
            have b2 := pcn_le s
            by_cases hp : pcn k < pcn s
            · rw [if_pos (nI_lt hp (by omega))]
              exact good (some s) (rC_lt hv hr hp)
            · rw [if_neg (nI_nlt (by omega) (by omega))]
              have := ih (k + 1) σ4 (by omega) f4 w5
              rw [rC_ge hr hp] at this
              exact this
        · rw [if_neg hz2]
          rw [decide_eq_false hz2] at hv
          have := ih (k + 1) σ4 (by omega) f4 w5
          rw [rC_nv hv] at this
          exact this
    exact loop (2 ^ c.1) 0 _ (by omega) fr12 _
