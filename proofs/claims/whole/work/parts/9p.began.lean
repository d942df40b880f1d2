/-! began; delays -/
def yS (x : Int32) (r : Nat → Int32) : Nat → Nat → Int32
  | 0 => r
  | k + 1 => if zb x k then bg (yS x r k) k 0 else yS x r k
theorem yS_1 (x : Int32) (r : Nat → Int32) (k : Nat) : yS x r (k + 1) = if zb x k then bg (yS x r k) k 0 else yS x r k := rfl
theorem yS_0 (r : Nat → Int32) : ∀ k, yS 0 r k = r := by
  intro k
  induction k with
  | zero => rfl
  | succ k ih => rw [yS_1, zb_0, ih]; rfl
theorem yS_WR {F t : Nat} {x : Int32} {r : Nat → Int32} (h9 : F ≤ 9) (h : WR F t r) : ∀ k, k ≤ F → WR F t (yS x r k) := by
  intro k
  induction k with
  | zero => intro _; exact h
  | succ k ih =>
    intro hk
    rw [yS_1]
    split
    · exact bg_WR h9 (by omega) (Or.inl rfl) (ih (by omega))
    · exact ih (by omega)
theorem yS_cong {x : Int32} {r r' : Nat → Int32} (h : REq r r') : ∀ k, REq (yS x r k) (yS x r' k) := by
  intro k
  induction k with
  | zero => exact h
  | succ k ih =>
    rw [yS_1, yS_1]
    split
    · exact bg_cong ih k 0
    · exact ih
theorem c_comesIf {d S : Nat} {fc af : Nat → Nat} {σ σ1 : zS} {c : MC} {l : List Int32} {t : Nat} (h : Ctx c l t σ) (hs : SQ S fc af σ) (f1 : Fr tC σ σ1) (ht : t + 300 < 1073741824) (x : Int32) {Q : Int32 → zS → Prop}
    (hq : ∀ σ', Fr scC σ1 σ' → Q (b2i (coB c S fc af (yS x (σ 215) c.1))) σ') : ZC (d + 7) 168 [.ref 0, .int x] σ1 Q := by
  have h9 := h.h9
  refine k_168_0 ?_
  refine c_take2 h f1 (fun σ2 f2 p2 => ?_)
  have f12 := Fr.tr f1 f2.cT
  have hloop := z_for (F := c.1) (P := fun k => ∀ σ3, Fr scC σ1 σ3 → PC c l t (yS x (σ 215) k) σ3 → Z (d + 6) 168 Q 13 [.ref 0, .int x, .int (nI k)] [] σ3) (fun k hk ih => ?_) ?_
  · exact hloop σ2 f2 p2
  · intro σ3 f3 p3
    refine k_168_13 ?_
    rw [show σ3 14 3 = nI c.1 from (tC_14 (Fr.tr f1 f3.cT)).trans h.h14, if_pos (nI_lt hk (by omega)), s_hasN _ (by omega), show nI k + (1 : Int32) = nI (k + 1) from nI_add k 1]
    rw [yS_1] at ih
    cases hz : zb x k
    · rw [hz] at ih
      rw [if_pos (show b2i false = 0 from rfl)]
      exact ih σ3 f3 p3
    · rw [hz] at ih
      rw [if_neg (show ¬ b2i true = 0 by decide)]
      refine c_planT p3 hk (Or.inl rfl) (show σ3 26 6 = yS x (σ 215) k 46 from p3.2.2.2.1.2.2.2.2) (fun σ4 f4 p4 => ?_)
      exact ih σ4 (Fr.tr f3 f4) p4
  · intro σ3 f3 p3
    refine k_168_13 ?_
    rw [show σ3 14 3 = nI c.1 from (tC_14 (Fr.tr f1 f3.cT)).trans h.h14, if_neg (nI_nlt (Nat.le_refl _) (by omega))]
    refine c_comeOn p3 (hs.ag (fun o i q1 q2 => (Fr.tr f1 f3.cT) o i ?_)) ht (fun σ4 f4 => ?_)
    · unfold tC scrT scr dTold
      rw [Bool.and_eq_false_iff, Bool.or_eq_false_iff, decide_eq_false_iff_not, decide_eq_false_iff_not]
      exact Or.inr ⟨by omega, by
        first
          | (rw [decide_eq_false_iff_not]; omega)
          | omega⟩
    · have e0 : ∀ b : Bool, ((b2i b &&& 1 = b2i b) = True) := by decide
      rw [if_pos (by rw [e0]; trivial)]
      exact hq σ4 (Fr.tr f3 f4.spw)
theorem r_comes {e S t : Nat} {fc af : Nat → Nat} {σ : zS} {c : MC} {l : List Int32} (hg : c.2.2.2.1 = rvl l ∧ RRef l σ ∧ σ 214 6 = nI c.2.2.2.2.1 ∧ c.2.2.2.2.1 ≤ 40 ∧ σ 218 = c.2.2.2.2.2 ∧ CKs 226 c σ) (hw : WR c.1 t (σ 215)) (h7 : σ 214 7 = 0) (hs : SR S fc af σ) (ht : t + 300 < 100000000) (x : Int32) {Q : Int32 → zS → Prop}
    (hq : ∀ σ', Fr scR σ σ' → Q (b2i (coB c S fc af (yS x (σ 215) c.1))) σ') : ZC (e + 227) 264 [.ref 214, .int x] σ Q := by
  obtain ⟨g1, g2, g3, g4, g5, ⟨m1, m2, m3, m4⟩⟩ := hg
  refine k_264_0 ?_
  refine r_beginThen (d := e + 224) (fun g hg => ?_)
  have f1 : Fr (fun o _ => decide (o = 226)) σ (zput σ 226 g) := Fr.put (fun i q => by simp at q)
  have e0 : (zput σ 226 g) 226 = g := e226
  have hPF : PF 226 c l t (zput σ 226 g) := by
    refine ⟨g1, RRef.ag g2 (f1 214 20 (by decide)) (fun i => f1 222 i (by simp)), (f1 214 6 (by decide)).trans g3, g4, ?_, ⟨(f1 214 1 (by decide)).trans m1, ?_, ?_, m4⟩, ?_⟩
    · rw [← g5]; exact funext fun i => f1 218 i (by simp)
    · rw [← m2]; exact funext fun i => f1 216 i (by simp)
    · rw [← m3]; exact funext fun i => f1 217 i (by simp)
    · rw [e0]; exact WR_cong m4 hw hg
  have hloop := z_for (F := c.1) (P := fun k => ∀ σ3 w3, Fr (fun o _ => decide (o = 226)) σ σ3 → PF 226 c l t σ3 → σ3 226 = yS x g k → Z (e + 226) 264 Q 6 [.ref 214, .int x, .int (nI k), w3] [] σ3) (fun k hk ih => ?_) ?_
  · exact hloop _ _ f1 hPF e0
  · intro σ3 w3 f3 p3 e3
    refine k_264_6 ?_
    rw [show σ3 214 1 = nI c.1 from (f3 214 1 (by decide)).trans m1, if_pos (nI_lt hk (by omega)), s_hasR _ (by omega), show nI k + (1 : Int32) = nI (k + 1) from nI_add k 1]
    rw [yS_1] at ih
    cases hz : zb x k
    · rw [hz] at ih
      rw [if_pos (show b2i false = 0 from rfl)]
      exact ih σ3 _ f3 p3 e3
    · rw [hz] at ih
      rw [if_neg (show ¬ b2i true = 0 by decide), r_begins226 (by omega), e3]
      have eb : upd (upd (upd (yS x g k) (18 + k) (yS x g k 46)) (27 + k) (-1)) (36 + k) 0 = bg (yS x g k) k 0 := rfl
      rw [eb]
      have hwk : WR c.1 t (bg (yS x g k) k 0) := bg_WR m4 hk (Or.inl rfl) (by have := p3.2.2.2.2.2.2; rw [e3] at this; exact this)
      exact ih _ _ (Fr.tr f3 (Fr.put (fun i q => by simp at q))) (p3.set hwk) e226
  · intro σ3 w3 f3 p3 e3
    refine k_264_6 ?_
    rw [show σ3 214 1 = nI c.1 from (f3 214 1 (by decide)).trans m1, if_neg (nI_nlt (Nat.le_refl _) (by omega))]
    refine r_comeOn p3 ((f3 214 7 (by decide)).trans h7) (hs.ag (f3 214 46 (by decide)) (fun i => f3 233 i (by simp))) ht (fun σ4 f4 => ?_) _
    rw [e3, coB_cong m4 (yS_cong (x := x) (fun i hi => hg i (by omega)) c.1)]
    exact hq σ4 (Fr.tr (Fr.s226 f3) f4.spR)
/-- what the reference's minutes rest on -/
theorem pg_of {c : MC} {l : List Int32} {t : Nat} {σ : zS} (h : Ctx c l t σ) : c.2.2.2.1 = rvl l ∧ RRef l σ ∧ σ 214 6 = nI c.2.2.2.2.1 ∧ c.2.2.2.2.1 ≤ 40 ∧ σ 218 = c.2.2.2.2.2 ∧ CKs 226 c σ := by
  obtain ⟨c1, -, ⟨-, -, -, -, k5, -⟩, -, c5, c6, c7, c8, -, -, -⟩ := h
  exact ⟨c1, c5, c6, k5, c7, c8⟩
theorem sr_46 {σ σ' : zS} (h : Fr scR σ σ') : σ' 214 46 = σ 214 46 := h 214 46 (by decide)
theorem r_able {d : Nat} {σ : zS} {F : Nat} (hF : σ 214 1 = nI F) (h9 : F ≤ 9) (Q : Int32 → zS → Prop) : ZC (d + 4) 265 [.ref 214] σ Q = Q (bs (cyw (σ 215)) F) σ := by
  refine s_of (fun Q hq => k_265_0 ?_) Q
  refine z_for (F := F) (P := fun k => Z (d + 3) 265 Q 4 [.ref 214, .int (bs (cyw (σ 215)) k), .int (nI k)] [] σ) (fun k hk ih => ?_) ?_
  · refine k_265_4 ?_
    rw [hF, if_pos (nI_lt hk (by omega)), r_canYawn hF h9 hk, show nI k + (1 : Int32) = nI (k + 1) from nI_add k 1]
    rw [bs_1] at ih
    cases hz : cyw (σ 215) k
    · rw [hz] at ih
      rw [if_pos (show b2i false = 0 from rfl), i_or0]
      exact ih
    · rw [hz] at ih
      rw [if_neg (show ¬ b2i true = 0 by decide)]
      exact ih
  · refine k_265_4 ?_
    rw [hF, if_neg (nI_nlt (Nat.le_refl _) (by omega))]
    exact hq
theorem call_began {d e b : Nat} {σ : zS} (h : Inv b σ) (hb : b < 90000000) : Both (d + 8) 123 [.ref 0] (e + 228) 266 [.ref 214] b σ := by
  obtain ⟨c, l, t, ht, hc⟩ := h.ctx
  obtain ⟨S, fc, af, hsq, hsr⟩ := h.hsights
  have h9 := hc.h9
  have hR3 : ∀ σ3, Fr tC σ σ3 → (zup σ3 214 12 0) 214 1 = nI c.1 := fun σ3 f3 => (fr12 (σ := σ3) 214 1 (by decide)).trans ((f3 214 1 (by decide)).trans hc.hR)
  have h215 : ∀ σ3, Fr tC σ σ3 → (zup σ3 214 12 0) 215 = σ 215 := fun σ3 f3 => (tR_215 fr12.rT).trans (tC_215 f3)
  generalize hA : (fun f => cyw (σ 215) f && coB c S fc af (yS (zshl 1 (nI f)) (σ 215) c.1)) = A
  have hAa : ∀ f, A f = (cyw (σ 215) f && coB c S fc af (yS (zshl 1 (nI f)) (σ 215) c.1)) := fun f => by rw [← hA]
  refine both_q h (bs A c.1) (some (1, tv1 (b2i (coB c S fc af (yS 0 (σ 215) c.1))))) (fun Q hq => ?_) (fun σ3 f3 Q hq => ?_)
  · refine k_123_0 ?_
    have hloop := z_for (F := c.1) (P := fun k => ∀ σ1, Fr scC σ σ1 → Z (d + 7) 123 Q 4 [.ref 0, .int (bs A k), .int (nI k)] [] σ1) (fun k hk ih => ?_) ?_
    · exact hloop σ Fr.rf
    · intro σ1 f1
      refine k_123_4 ?_
      have hc1 := hc.fr (FrCT f1.cT)
      have e215 : σ1 215 = σ 215 := tC_215 f1.cT
      rw [hc1.h14, if_pos (nI_lt hk (by omega)), c_canYawn hc1.h14 h9 hc1.hcm hk, e215, show nI k + (1 : Int32) = nI (k + 1) from nI_add k 1]
      rw [bs_1, hAa] at ih
      cases hcy : cyw (σ 215) k
      · rw [hcy, Bool.false_and] at ih
        rw [if_pos (show b2i false = 0 from rfl)]
        exact ih σ1 f1
      · rw [hcy, Bool.true_and] at ih
        rw [if_neg (show ¬ b2i true = 0 by decide), s_bit]
        refine c_comesIf hc hsq f1.cT (by omega) _ (fun σ2 f2 => ?_)
        cases hco : coB c S fc af (yS (zshl 1 (nI k)) (σ 215) c.1)
        · rw [hco] at ih
          rw [if_pos (show b2i false = 0 from rfl)]
          exact ih σ2 (Fr.tr f1 f2)
        · rw [hco] at ih
          rw [if_neg (show ¬ b2i true = 0 by decide), s_bit]
          exact ih σ2 (Fr.tr f1 f2)
    · intro σ1 f1
      refine k_123_4 ?_
      rw [(hc.fr (FrCT f1.cT)).h14, if_neg (nI_nlt (Nat.le_refl _) (by omega))]
      refine c_comesIf hc hsq f1.cT (by omega) _ (fun σ2 f2 => ?_)
      cases hco : coB c S fc af (yS 0 (σ 215) c.1)
      · rw [hco] at hq
        rw [if_pos (show b2i false = 0 from rfl)]
        exact c_tell1 (fun σ5 f5 t5 => hq σ5 ⟨by decide, Fr.tr (Fr.tr f1 f2).cT f5.sTC, t5⟩)
      · rw [hco] at hq
        rw [if_neg (show ¬ b2i true = 0 by decide)]
        exact c_tell1 (fun σ5 f5 t5 => hq σ5 ⟨by decide, Fr.tr (Fr.tr f1 f2).cT f5.sTC, t5⟩)
  · refine k_266_0 ?_
    have hc3 := (hc.fr (FrCT f3)).fr (FrR fr12)
    have e215 := h215 σ3 f3
    have srq : ∀ σ1, Fr scR (zup σ3 214 12 0) σ1 → SR S fc af σ1 := fun σ1 f1 => hsr.ag ((sr_46 f1).trans (f3 214 46 (by decide))) (fun i => (f1 233 i (by simp [scR, scr])).trans (f3 233 i (by simp [tC])))
    have co : ∀ σ1, Fr scR (zup σ3 214 12 0) σ1 → ∀ (x : Int32) (Q : Int32 → zS → Prop), (∀ σ', Fr scR σ1 σ' → Q (b2i (coB c S fc af (yS x (σ 215) c.1))) σ') → ZC (e + 227) 264 [.ref 214, .int x] σ1 Q := fun σ1 f1 x Q hq => by
      have hc1 := hc3.fr (FrR f1)
      have e1 : σ1 215 = σ 215 := (tR_215 f1.rT).trans e215
      refine r_comes (pg_of hc1) (t := t) (by rw [e1]; exact hc.hWR) hc1.2.2.2.2.2.2.2.2.2.1 (srq σ1 f1) (by omega) x (fun σ' f' => ?_)
      rw [e1]
      exact hq σ' f'
    have hloop := z_for (F := c.1) (P := fun k => ∀ σ1, Fr scR (zup σ3 214 12 0) σ1 → Z (e + 227) 266 Q 9 [.ref 214, .int (bs A k), .int (nI k)] [] σ1) (fun k hk ih => ?_) ?_
    · exact hloop _ Fr.rf
    · intro σ1 f1
      refine k_266_9 ?_
      have hc1 := hc3.fr (FrR f1)
      have e1 : σ1 215 = σ 215 := (tR_215 f1.rT).trans e215
      rw [hc1.hR, if_pos (nI_lt hk (by omega)), r_able hc1.hR h9, e1, s_hasR _ (by omega), zb_bs (by omega) (by omega), decide_eq_true hk, Bool.true_and, show nI k + (1 : Int32) = nI (k + 1) from nI_add k 1]
      rw [bs_1, hAa] at ih
      cases hcy : cyw (σ 215) k
      · rw [hcy, Bool.false_and] at ih
        rw [if_pos (show b2i false = 0 from rfl)]
        exact ih σ1 f1
      · rw [hcy, Bool.true_and] at ih
        rw [if_neg (show ¬ b2i true = 0 by decide)]
        refine co σ1 f1 _ _ (fun σ2 f2 => ?_)
        cases hco : coB c S fc af (yS (zshl 1 (nI k)) (σ 215) c.1)
        · rw [hco] at ih
          rw [if_pos (show b2i false = 0 from rfl)]
          exact ih σ2 (Fr.tr f1 f2)
        · rw [hco] at ih
          rw [if_neg (show ¬ b2i true = 0 by decide)]
          exact ih σ2 (Fr.tr f1 f2)
    · intro σ1 f1
      refine k_266_9 ?_
      rw [(hc3.fr (FrR f1)).hR, if_neg (nI_nlt (Nat.le_refl _) (by omega))]
      refine co σ1 f1 _ _ (fun σ2 f2 => ?_)
      cases hco : coB c S fc af (yS 0 (σ 215) c.1)
      · rw [hco] at hq
        rw [if_pos (show b2i false = 0 from rfl)]
        exact r_tell1 (fun σ5 f5 t5 => hq σ5 ⟨Fr.tr (Fr.tr fr12 (Fr.tr f1 f2)).rT f5.sTR, t5⟩)
      · rw [hco] at hq
        rw [if_neg (show ¬ b2i true = 0 by decide)]
        exact r_tell1 (fun σ5 f5 t5 => hq σ5 ⟨Fr.tr (Fr.tr fr12 (Fr.tr f1 f2)).rT f5.sTR, t5⟩)
