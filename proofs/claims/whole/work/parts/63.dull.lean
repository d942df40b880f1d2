/-! the dullest start -/
def ab (x : Int32) : Int32 := if x < 0 then -x else x
theorem s_ab {d : Nat} (x : Int32) (σ : zS) (Q : Int32 → zS → Prop) : ZC (d + 1) 2 [.int x] σ Q = Q (ab x) σ :=
  s_of (fun Q h => k_2_0 (by
    unfold ab at h
    by_cases hq : x < 0
    · rw [if_pos hq] at h ⊢; exact h
    · rw [if_neg hq] at h ⊢; exact h)) Q
theorem nI_subI {a b : Nat} (ha : a < 1000000000) (hb : b < 1000000000) : (nI a - nI b).toInt = (a : Int) - b := by
  rw [Int32.toInt_sub, nI_toInt (by omega), nI_toInt (by omega)]
  exact Int.bmod_eq_of_le (by omega) (by omega)
theorem ab_lt {a b : Nat} (ha : a ≤ 300) (hb : b ≤ 300) : ab (nI a - nI b) < 1000000 := by
  unfold ab
  have e := nI_subI (a := a) (b := b) (by omega) (by omega)
  have e6 : (1000000 : Int32).toInt = 1000000 := by decide
  split
  · rw [Int32.lt_iff_toInt_lt, Int32.toInt_neg, e, e6]
    rw [Int.bmod_eq_of_le (by omega) (by omega)]
    omega
  · rw [Int32.lt_iff_toInt_lt, e, e6]
    omega
def dlp (v : Nat → Int32) (m : Int32) : Nat → Int32 × Int32
  | 0 => (0, -1)
  | k + 1 => if v k = -1 then dlp v m k else if (dlp v m k).2 = -1 then (nI k, v k) else if ab (v k - m) < ab ((dlp v m k).2 - m) then (nI k, v k) else dlp v m k
theorem dlp_1 (v : Nat → Int32) (m : Int32) (k : Nat) : dlp v m (k + 1) = if v k = -1 then dlp v m k else if (dlp v m k).2 = -1 then (nI k, v k) else if ab (v k - m) < ab ((dlp v m k).2 - m) then (nI k, v k) else dlp v m k := rfl
theorem dlp_rng {v : Nat → Int32} {m : Int32} (hv : ∀ k, v k = -1 ∨ ∃ a, a < 300 ∧ v k = nI a) : ∀ k, (dlp v m k).2 = -1 ∨ ∃ a, a < 300 ∧ (dlp v m k).2 = nI a := by
  intro k
  induction k with
  | zero => exact Or.inl rfl
  | succ k ih =>
    unfold dlp
    split
    · exact ih
    · split
      · exact hv k
      · split
        · exact hv k
        · exact ih
theorem dlp_fst {v : Nat → Int32} {m : Int32} : ∀ k, k ≤ 9 → ¬ (dlp v m k).1 < 0 := by
  intro k
  induction k with
  | zero => exact fun _ => by show ¬ (0 : Int32) < 0; decide
  | succ k ih =>
    intro hk
    unfold dlp
    split
    · exact ih (by omega)
    · split
      · exact nI_pos (by omega)
      · split
        · exact nI_pos (by omega)
        · exact ih (by omega)
/-- what the other keeps -/
def dlr (v : Nat → Int32) (m : Int32) (k : Nat) : Int32 × Int32 × Int32 := if k = 0 then (-2, -1, 1000001) else ((dlp v m k).1, (dlp v m k).2, if (dlp v m k).2 = -1 then 1000000 else ab ((dlp v m k).2 - m))
theorem dlr_1 {v : Nat → Int32} {m k : Nat} (hm : m ≤ 299) (hv : ∀ k, v k = -1 ∨ ∃ a, a < 300 ∧ v k = nI a) : dlr v (nI m) (k + 1) = if v k = -1 then (if 1000000 < (dlr v (nI m) k).2.2 then (nI k, v k, 1000000) else dlr v (nI m) k) else if ab (v k - nI m) < (dlr v (nI m) k).2.2 then (nI k, v k, ab (v k - nI m)) else dlr v (nI m) k := by
  have hne : ∀ a, a < 300 → ¬ nI a = -1 := fun a ha q => by
    have := nI_pos (n := a) (by omega)
    rw [q] at this
    exact this (by decide)
  have hab : ∀ k, ¬ v k = -1 → ab (v k - nI m) < 1000000 := fun k q => by
    rcases hv k with h | ⟨a, h1, h2⟩
    · exact absurd h q
    · rw [h2]; exact ab_lt (by omega) (by omega)
  by_cases h0 : k = 0
  · subst h0
    rw [show dlr v (nI m) 0 = (-2, -1, 1000001) from rfl, show dlr v (nI m) (0 + 1) = ((dlp v (nI m) 1).1, (dlp v (nI m) 1).2, if (dlp v (nI m) 1).2 = -1 then 1000000 else ab ((dlp v (nI m) 1).2 - nI m)) from rfl, show dlp v (nI m) 1 = if v 0 = -1 then (0, -1) else if (-1 : Int32) = -1 then (nI 0, v 0) else if ab (v 0 - nI m) < ab (-1 - nI m) then (nI 0, v 0) else (0, -1) from rfl]
    by_cases hz : v 0 = -1
    · rw [if_pos hz, if_pos hz, if_pos (by decide), hz]
      rfl
    · rw [if_neg hz, if_neg hz, if_pos rfl, if_neg hz, if_pos (show ab (v 0 - nI m) < (1000001 : Int32) from Int32.lt_trans (hab 0 hz) (by decide))]
  · have hk : dlr v (nI m) k = ((dlp v (nI m) k).1, (dlp v (nI m) k).2, if (dlp v (nI m) k).2 = -1 then 1000000 else ab ((dlp v (nI m) k).2 - nI m)) := if_neg h0
    have hk1 : dlr v (nI m) (k + 1) = ((dlp v (nI m) (k + 1)).1, (dlp v (nI m) (k + 1)).2, if (dlp v (nI m) (k + 1)).2 = -1 then 1000000 else ab ((dlp v (nI m) (k + 1)).2 - nI m)) := if_neg (by omega)
    rw [hk1, hk]
    rw [dlp_1]
    have hr := dlp_rng (m := nI m) hv k
    by_cases hz : v k = -1
    · rcases hr with hr | ⟨a, h1, h2⟩
      · rw [if_pos hz, if_pos hz, if_pos hr]
        exact (if_neg (show ¬ (1000000 : Int32) < 1000000 by decide)).symm
      · have hn : ¬ (dlp v (nI m) k).2 = -1 := by rw [h2]; exact hne a h1
        rw [if_pos hz, if_pos hz, if_neg hn]
        refine (if_neg ?_).symm
        show ¬ (1000000 : Int32) < ab ((dlp v (nI m) k).2 - nI m)
        rw [h2]
        exact fun q => Int32.lt_irrefl (Int32.lt_trans q (ab_lt (by omega) (by omega)))
    · rw [if_neg hz, if_neg hz]
      rcases hr with hr | ⟨a, h1, h2⟩
      · rw [if_pos hr, if_neg hz, if_pos hr, if_pos (hab k hz)]
      · have hn : ¬ (dlp v (nI m) k).2 = -1 := by rw [h2]; exact hne a h1
        rw [if_neg hn, if_neg hn]
        by_cases hlt : ab (v k - nI m) < ab ((dlp v (nI m) k).2 - nI m)
        · rw [if_pos hlt, if_pos hlt, if_neg hz]
        · rw [if_neg hlt, if_neg hlt, if_neg hn]
theorem call_dull {d e b : Nat} {σ : zS} (x y : Int32) (h : Inv b σ) (hb : b < 90000000) : Both (d + 8) 111 [.ref 0, .int x, .int y] (e + 229) 248 [.ref 214, .int x, .int y] b σ := by
  obtain ⟨c, l, t, ht, hc⟩ := h.ctx
  have h9 := hc.h9
  rcases rngC x 1 9 (by decide) (by decide) with hx | ⟨u, hu, hu2, rfl⟩
  · have hx : x < (1 : Int32) ∨ (9 : Int32) < x := hx
    refine both_q h (-1) none (fun Q hq => ?_) (fun σ3 f3 Q hq => ?_)
    · refine k_111_0 ?_
      rw [s_isIn0 hx, if_pos rfl]
      exact hq σ Fr.rf
    · refine k_248_0 ?_
      rw [s_in0 hx, if_pos rfl]
      exact hq _ fr12
  rcases rngC y 0 299 (by decide) (by decide) with hy | ⟨m, -, hm, rfl⟩
  · have hy : y < (0 : Int32) ∨ (299 : Int32) < y := hy
    refine both_q h (-1) none (fun Q hq => ?_) (fun σ3 f3 Q hq => ?_)
    · refine k_111_0 ?_
      rw [show (Value.int 1) = .int (nI 1) from rfl, show (Value.int 9) = .int (nI 9) from rfl, s_isIn1 hu hu2 (by decide), if_neg (by decide), s_isIn0 hy, if_pos rfl]
      exact hq σ Fr.rf
    · refine k_248_0 ?_
      rw [show (Value.int 1) = .int (nI 1) from rfl, show (Value.int 9) = .int (nI 9) from rfl, s_in1 hu hu2 (by decide), if_neg (by decide), s_in0 hy, if_pos rfl]
      exact hq _ fr12
  generalize hv : (fun k => (stR c (σ 214 4) (trd (σ 215) k (nI u))).1) = v
  have hvk : ∀ k, (stR c (σ 214 4) (trd (σ 215) k (nI u))).1 = v k := fun k => congrFun hv k
  have hvr : ∀ k, v k = -1 ∨ ∃ a, a < 300 ∧ v k = nI a := fun k => by rw [← hvk]; exact stR_rng
  refine both_q h (if c.1 = 0 then -2 else (dlp v (nI m) c.1).1) (if c.1 = 0 then none else some (1, tv1 (dlp v (nI m) c.1).2)) (fun Q hq => ?_) (fun σ3 f3 Q hq => ?_)
  · refine k_111_0 ?_
    rw [show (Value.int 1) = .int (nI 1) from rfl, show (Value.int 9) = .int (nI 9) from rfl, s_isIn1 hu hu2 (by decide), if_neg (by decide), show (Value.int 0) = .int (nI 0) from rfl, show (Value.int 299) = .int (nI 299) from rfl, s_isIn1 (Nat.zero_le m) hm (by decide), if_neg (by decide), hc.h14]
    by_cases hF : c.1 = 0
    · rw [if_pos hF, if_pos hF] at hq
      rw [hF, if_pos (show nI 0 = (0 : Int32) from rfl)]
      exact hq σ Fr.rf
    · rw [if_neg hF, if_neg hF] at hq
      rw [if_neg (fun q => hF (by
        have := nI_ltI (a := 0) (b := c.1) (by decide) (by omega)
        rw [q] at this
        rcases Nat.eq_zero_or_pos c.1 with h | h
        · exact h
        · exact absurd (this.mpr h) (by decide)))]
      have hloop := z_for (F := c.1) (P := fun k => ∀ w σ1, Fr scC σ σ1 → Z (d + 7) 111 Q 44 [.ref 0, .int (nI u), .int (nI m), .int (dlp v (nI m) k).1, .int (dlp v (nI m) k).2, .int (nI k), w] [] σ1) (fun k hk ih w σ1 f1 => ?_) (fun w σ1 f1 => ?_)
      · exact hloop _ σ Fr.rf
      · refine k_111_44 ?_
        rw [(tC_14 f1.cT).trans hc.h14, if_pos (nI_lt hk (by omega))]
        refine c_stT1 hc f1.cT hk (nI u) (by omega) (fun σ2 f2 => ?_)
        rw [hvk]
        have f12' := Fr.tr f1 f2
        rw [show nI k + (1 : Int32) = nI (k + 1) from nI_add k 1]
        have ih2 := ih (.int (v k)) σ2 f12'
        rw [dlp_1] at ih2
        by_cases hz : v k = -1
        · rw [if_pos hz] at ih2 ⊢; exact ih2
        · rw [if_neg hz] at ih2 ⊢
          by_cases hz2 : (dlp v (nI m) k).2 = -1
          · rw [if_pos hz2] at ih2 ⊢; exact ih2
          · rw [if_neg hz2] at ih2 ⊢
            rw [s_ab, s_ab]
            by_cases hlt : ab (v k - nI m) < ab ((dlp v (nI m) k).2 - nI m)
            · rw [if_pos hlt] at ih2 ⊢; exact ih2
            · rw [if_neg hlt] at ih2 ⊢; exact ih2
      · refine k_111_44 ?_
        rw [(tC_14 f1.cT).trans hc.h14, if_neg (nI_nlt (Nat.le_refl _) (by omega))]
        refine c_tell1 (fun σ2 f2 t2 => ?_)
        exact hq σ2 ⟨by decide, Fr.tr f1.cT f2.sTC, t2⟩
  · refine k_248_0 ?_
    rw [show (Value.int 1) = .int (nI 1) from rfl, show (Value.int 9) = .int (nI 9) from rfl, s_in1 hu hu2 (by decide), if_neg (by decide), show (Value.int 0) = .int (nI 0) from rfl, show (Value.int 299) = .int (nI 299) from rfl, s_in1 (Nat.zero_le m) hm (by decide), if_neg (by decide)]
    have hloop := z_for (F := c.1) (P := fun k => ∀ w w2 σ4, Fr scR σ3 σ4 → Z (e + 228) 248 Q 42 [.ref 214, .int (nI u), .int (nI m), .int (dlr v (nI m) k).1, .int (dlr v (nI m) k).2.1, .int (dlr v (nI m) k).2.2, .int (nI k), w, w2] [] σ4) (fun k hk ih w w2 σ4 f4 => ?_) (fun w w2 σ4 f4 => ?_)
    · exact hloop _ _ _ fr12
    · refine k_248_42 ?_
      rw [(f4.rT 214 1 (by decide)).trans ((f3 214 1 (by decide)).trans hc.hR), if_pos (nI_lt hk (by omega))]
      refine r_stW hc f3 f4.rT (by omega) (nI u) (by omega) (fun σ5 f5 => ?_)
      rw [hvk]
      have f45 := Fr.tr f4 f5
      rw [show nI k + (1 : Int32) = nI (k + 1) from nI_add k 1]
      have ih2 := fun w w2 => ih w w2 σ5 f45
      rw [dlr_1 hm hvr] at ih2
      by_cases hz : v k = -1
      · rw [if_pos hz] at ih2 ⊢
        by_cases hl : 1000000 < (dlr v (nI m) k).2.2
        · rw [if_pos hl] at ih2 ⊢; exact ih2 _ _
        · rw [if_neg hl] at ih2 ⊢; exact ih2 _ _
      · rw [if_neg hz] at ih2 ⊢
        rw [s_ab]
        by_cases hl : ab (v k - nI m) < (dlr v (nI m) k).2.2
        · rw [if_pos hl] at ih2 ⊢; exact ih2 _ _
        · rw [if_neg hl] at ih2 ⊢; exact ih2 _ _
    · refine k_248_42 ?_
      rw [(f4.rT 214 1 (by decide)).trans ((f3 214 1 (by decide)).trans hc.hR), if_neg (nI_nlt (Nat.le_refl _) (by omega))]
      by_cases hF : c.1 = 0
      · rw [if_pos hF, if_pos hF] at hq
        rw [show (dlr v (nI m) c.1).1 = -2 from by rw [hF]; rfl, if_pos (by decide)]
        exact hq σ4 f4
      · rw [if_neg hF, if_neg hF] at hq
        have hd : dlr v (nI m) c.1 = ((dlp v (nI m) c.1).1, (dlp v (nI m) c.1).2, if (dlp v (nI m) c.1).2 = -1 then 1000000 else ab ((dlp v (nI m) c.1).2 - nI m)) := if_neg hF
        rw [hd, if_neg (dlp_fst c.1 h9)]
        refine r_tell1 (fun σ6 f6 t6 => ?_)
        exact hq σ6 ⟨Fr.tr f4.rT f6.sTR, t6⟩
