/-! led back through THE BOOK -/
def bpl (y i : Nat) : Nat := (y - (if y < 60 then y else 60) + i) % 60
def bM (r : Nat → Int32) (y i : Nat) : Int32 := r (48 + 4 * bpl y i)
def bFc (r : Nat → Int32) (y i : Nat) : Int32 := r (48 + 4 * bpl y i + 1)
def bCa (r : Nat → Int32) (y i : Nat) : Int32 := r (48 + 4 * bpl y i + 2)
def bMe (r : Nat → Int32) (y i : Nat) : Int32 := r (48 + 4 * bpl y i + 3)
theorem bpl_lt (y i : Nat) : bpl y i < 60 := Nat.mod_lt _ (by decide)
/-- the latest yawn of who ahead of the minute m, of the first n -/
def lbv (r : Nat → Int32) (y : Nat) (who m : Int32) : Nat → Int32
  | 0 => -1
  | k + 1 => if bFc r y k = who ∧ bM r y k < m then nI k else lbv r y who m k
theorem lbv_1 (r : Nat → Int32) (y : Nat) (who m : Int32) (k : Nat) : lbv r y who m (k + 1) = if bFc r y k = who ∧ bM r y k < m then nI k else lbv r y who m k := rfl
theorem lbv_cs {r : Nat → Int32} {y : Nat} {who m : Int32} : ∀ n, lbv r y who m n = -1 ∨ ∃ k, k < n ∧ lbv r y who m n = nI k ∧ bFc r y k = who := by
  intro n
  induction n with
  | zero => exact Or.inl rfl
  | succ n ih =>
    rw [lbv_1]
    by_cases h : bFc r y n = who ∧ bM r y n < m
    · rw [if_pos h]; exact Or.inr ⟨n, by omega, rfl, h.1⟩
    · rw [if_neg h]
      rcases ih with h1 | ⟨k, h1, h2, h3⟩
      · exact Or.inl h1
      · exact Or.inr ⟨k, by omega, h2, h3⟩
def bkr (r : Nat → Int32) (y : Nat) : Nat → Nat → Nat → Int32 × Int32 × Int32
  | 0, here, n => (nI n, bFc r y here, 1)
  | fuel + 1, here, n => if bCa r y here = -1 then (nI n, bFc r y here, 1) else if lbv r y (bCa r y here) (bM r y here) here = -1 then (nI (n + 1), bCa r y here, 0) else bkr r y fuel (lbv r y (bCa r y here) (bM r y here) here).toNatClampNeg (n + 1)
theorem bkr_1 (r : Nat → Int32) (y fuel here n : Nat) : bkr r y (fuel + 1) here n = if bCa r y here = -1 then (nI n, bFc r y here, 1) else if lbv r y (bCa r y here) (bM r y here) here = -1 then (nI (n + 1), bCa r y here, 0) else bkr r y fuel (lbv r y (bCa r y here) (bM r y here) here).toNatClampNeg (n + 1) := rfl
def CBy (r : Nat → Int32) (y : Nat) (σ : zS) : Prop := y < 1073741824 ∧ σ 32 4 = nI (if y < 60 then y else 60) ∧ σ 32 5 = nI (if y < 60 then 0 else y % 60) ∧ ∀ p, p < 60 → σ 33 p = r (48 + 4 * p) ∧ σ 34 p = r (48 + 4 * p + 1) ∧ σ 35 p = r (48 + 4 * p + 2) ∧ σ 36 p = r (48 + 4 * p + 3)
theorem CB.y {r : Nat → Int32} {σ : zS} (h : CB 32 r σ) : ∃ y, CBy r y σ ∧ r 47 = nI y := by
  obtain ⟨y, h1, h2, h3, h4, h5⟩ := h
  exact ⟨y, ⟨h1, h3, h4, h5⟩, h2⟩
theorem c_placeB {d y i : Nat} {r : Nat → Int32} {σ : zS} (h : CBy r y σ) (hi : i < 60) (Q : Int32 → zS → Prop) : ZC (d + 2) 14 [.ref 32, .int (nI i)] σ Q = Q (nI (bpl y i)) σ := by
  obtain ⟨h1, h2, h3, h4⟩ := h
  have hj : (if y < 60 then 0 else y % 60) + i < 120 := by split <;> omega
  rw [c_place h3 hj]
  have e : ((if y < 60 then 0 else y % 60) + i) % 60 = bpl y i := by
    unfold bpl
    by_cases q : y < 60
    · rw [if_pos q, if_pos q]; congr 1; omega
    · rw [if_neg q, if_neg q]; omega
  rw [e]
theorem dn0 : (nI 0 : Int32) - 1 = -1 := by decide
theorem dn1 (k : Nat) : nI (k + 1) - (1 : Int32) = nI k := subL (n := k + 1) (k := 1) (by omega)
theorem dnm : ∀ k, k < 60 → nI k + (-1 : Int32) = nI k - 1 := by decide
theorem c_latest {d y i : Nat} {r : Nat → Int32} {σ : zS} (h : CBy r y σ) (hi : i < 60) (who : Int32) (Q : Int32 → zS → Prop) : ZC (d + 3) 18 [.ref 32, .int (nI i), .int who] σ Q = Q (lbv r y who (bM r y i) i) σ := by
  refine s_of (fun Q hq => k_18_0 ?_) Q
  obtain ⟨-, -, -, hl⟩ := id h
  rw [c_placeB h hi, if_pos (zin_nI (bpl_lt y i) (by decide)), zcl (by have := bpl_lt y i; omega), (hl _ (bpl_lt y i)).1]
  have key : ∀ n, n ≤ i → (Q (lbv r y who (bM r y i) n) σ) → Z (d + 2) 18 Q 16 [.ref 32, .int (nI i), .int who, .int (bM r y i), .int (nI n - 1)] [] σ := by
    intro n
    induction n with
    | zero =>
      intro _ hq
      refine k_18_16 ?_
      rw [dn0, if_pos (by decide)]
      exact hq
    | succ n ih =>
      intro hn hq
      refine k_18_16 ?_
      rw [dn1, if_neg (nI_pos (by omega)), c_placeB h (by omega), if_pos (zin_nI (bpl_lt y n) (by decide)), zcl (by have := bpl_lt y n; omega), (hl _ (bpl_lt y n)).2.1, dnm n (by omega)]
      rw [lbv_1] at hq
      by_cases q1 : bFc r y n = who
      · rw [if_pos (show r (48 + 4 * bpl y n + 1) = who from q1), c_placeB h (by omega), if_pos (zin_nI (bpl_lt y n) (by decide)), zcl (by have := bpl_lt y n; omega), (hl _ (bpl_lt y n)).1]
        by_cases q2 : bM r y n < bM r y i
        · rw [if_pos ⟨q1, q2⟩] at hq
          rw [if_pos (show r (48 + 4 * bpl y n) < bM r y i from q2)]
          exact hq
        · rw [if_neg (fun q => q2 q.2)] at hq
          rw [if_neg (show ¬ r (48 + 4 * bpl y n) < bM r y i from q2)]
          exact ih (by omega) hq
      · rw [if_neg (fun q => q1 q.1)] at hq
        rw [if_neg (show ¬ r (48 + 4 * bpl y n + 1) = who from q1)]
        exact ih (by omega) hq
  exact key i (Nat.le_refl i) hq
theorem c_bookGet {d y i : Nat} {r : Nat → Int32} {σ : zS} (h : CBy r y σ) (hi : i < 60) (Q : Int32 → zS → Prop) : ZC (d + 3) 16 [.ref 32, .int (nI i)] σ Q = Q (bCa r y i) σ ∧ ZC (d + 3) 17 [.ref 32, .int (nI i)] σ Q = Q (bFc r y i) σ := by
  obtain ⟨-, -, -, hl⟩ := id h
  refine ⟨s_of (fun Q hq => k_16_0 ?_) Q, s_of (fun Q hq => k_17_0 ?_) Q⟩
  · rw [c_placeB h hi, if_pos (zin_nI (bpl_lt y i) (by decide)), zcl (by have := bpl_lt y i; omega), (hl _ (bpl_lt y i)).2.2.1]
    exact hq
  · rw [c_placeB h hi, if_pos (zin_nI (bpl_lt y i) (by decide)), zcl (by have := bpl_lt y i; omega), (hl _ (bpl_lt y i)).2.1]
    exact hq
theorem c_back {d y : Nat} {r : Nat → Int32} {σ : zS} (h : CBy r y σ) {Q : Int32 → zS → Prop} (x1 : Int32) : ∀ fuel here n k5, here < fuel → k5 + here < 60 → n + here < 100 → (∀ σ', Fr frTC σ σ' → TL 2 (tv2 (bkr r y fuel here n).2.1 (bkr r y fuel here n).2.2) σ' → Q (bkr r y fuel here n).1 σ') → ∀ w6, Z (d + 3) 99 Q 30 [.ref 0, .int x1, .int (nI n), .int (nI here), .int (bCa r y here), .int (nI k5), w6] [] σ := by
  intro fuel
  induction fuel with
  | zero => intro here n k5 h1; omega
  | succ fuel ih =>
    intro here n k5 h1 h2 h3 hq w6
    rw [bkr_1] at hq
    refine k_99_30 ?_
    rw [if_pos (show nI k5 < 60 from nI_lt (b := 60) (by omega) (by decide)), (c_bookGet h (by omega) _).2, show nI n + (1 : Int32) = nI (n + 1) from nI_add n 1, show nI k5 + (1 : Int32) = nI (k5 + 1) from nI_add k5 1]
    by_cases hc : bCa r y here = -1
    · rw [if_pos hc]
      rw [if_pos hc] at hq
      exact c_tell2 hq
    · rw [if_neg hc, c_latest h (by omega)]
      rw [if_neg hc] at hq
      rcases lbv_cs (r := r) (y := y) (who := bCa r y here) (m := bM r y here) here with hl | ⟨k, hk, hl, -⟩
      · rw [if_pos hl]
        rw [if_pos hl] at hq
        exact c_tell2 hq
      · have hne : ¬ (lbv r y (bCa r y here) (bM r y here) here = -1) := by rw [hl]; exact nI_m1 (by omega)
        rw [if_neg hne] at hq ⊢
        rw [hl, zcl (by omega)] at hq
        rw [hl, (c_bookGet h (by omega) _).1]
        exact ih k (n + 1) (k5 + 1) (by omega) (by omega) (by omega) hq _
theorem r_lineOf {d y i : Nat} {σ : zS} (hy : σ 215 47 = nI y) (hyb : y < 1073741824) (hi : i ≤ 60) (Q : Int32 → zS → Prop) : ZC (d + 3) 224 [.ref 214, .int (nI i)] σ Q = Q (nI (48 + 4 * bpl y i)) σ := by
  refine s_of (fun Q hq => k_224_0 ?_) Q
  rw [r_bookMany hy hyb, hy, subL (n := y) (k := if y < 60 then y else 60) (by split <;> omega), nI_add, show zrem (nI (y - (if y < 60 then y else 60) + i)) 60 = nI ((y - (if y < 60 then y else 60) + i) % 60) from zrem_nI (b := 60) (by omega) (by decide) (by decide), show (4 : Int32) * nI ((y - (if y < 60 then y else 60) + i) % 60) = nI (4 * ((y - (if y < 60 then y else 60) + i) % 60)) from zm4 _, show (48 : Int32) + nI (4 * ((y - (if y < 60 then y else 60) + i) % 60)) = nI (48 + 4 * ((y - (if y < 60 then y else 60) + i) % 60)) from nI_add 48 _]
  exact hq
theorem r_back {d y : Nat} {r : Nat → Int32} {σ : zS} (hr : σ 215 = r) (hy : σ 215 47 = nI y) (hyb : y < 1073741824) {Q : Int32 → zS → Prop} (x1 : Int32) : ∀ fuel here n, here < fuel → here < 60 → n + here < 100 → (∀ σ', Fr frTR σ σ' → TLr 2 (tv2 (bkr r y fuel here n).2.1 (bkr r y fuel here n).2.2) σ' → Q (bkr r y fuel here n).1 σ') → ∀ w5 w6, Z (d + 3) 226 Q 39 [.ref 214, .int x1, .int (nI n), .int (bFc r y here), .int (nI here), w5, w6] [] σ := by
  intro fuel
  induction fuel with
  | zero => intro here n h1; omega
  | succ fuel ih =>
    intro here n h1 h2 h3 hq w5 w6
    rw [bkr_1] at hq
    have hb := bpl_lt y here
    have e2 : nI (48 + 4 * bpl y here) + (2 : Int32) = nI (48 + 4 * bpl y here + 2) := nI_add _ 2
    refine k_226_39 ?_
    simp only [r_lineOf hy hyb (show here ≤ 60 by omega), e2]
    rw [if_neg (nI_m1 (by omega)), if_pos (zin_nI (by omega) (by decide)), if_pos (zin_nI (by omega) (by decide)), if_pos (zin_nI (by omega) (by decide)), zcl (by omega), zcl (by omega), hr, show r (48 + 4 * bpl y here + 2) = bCa r y here from rfl, show r (48 + 4 * bpl y here) = bM r y here from rfl]
    by_cases hc : bCa r y here = -1
    · have hh1 : ¬ (nI here = -1) := nI_m1 (by omega)
      simp only [hc, hh1, ↓reduceIte]
      rw [if_pos hc] at hq
      exact r_tell2 (g := fun _ => 1) (K := fun _ s => Q (nI n) s) (fun _ _ => rfl) hq
    · rw [if_neg hc]
      rw [if_neg hc] at hq
      -- down to the latest one
      have key : ∀ m, m ≤ here → (lbv r y (bCa r y here) (bM r y here) m = lbv r y (bCa r y here) (bM r y here) here) → Z (d + 3) 226 Q 95 [.ref 214, .int x1, .int (nI n), .int (bCa r y here), .int (nI here), .int (bM r y here), .int (nI m - 1)] [] σ := by
        intro m
        induction m with
        | zero =>
          intro _ hm
          refine k_226_95 ?_
          rw [dn0, if_pos (by decide)]
          refine k_226_39 ?_
          simp only [↓reduceIte]
          rw [show nI n + (1 : Int32) = nI (n + 1) from nI_add n 1]
          rw [if_pos (show lbv r y (bCa r y here) (bM r y here) here = -1 from hm.symm)] at hq
          exact r_tell2 (g := fun _ => 0) (K := fun _ s => Q (nI (n + 1)) s) (fun _ _ => rfl) hq
        | succ m ih2 =>
          intro hmh hm
          have hb2 := bpl_lt y m
          rw [lbv_1] at hm
          refine k_226_95 ?_
          rw [dn1, if_neg (nI_pos (by omega)), r_lineOf hy hyb (by omega), show nI (48 + 4 * bpl y m) + (1 : Int32) = nI (48 + 4 * bpl y m + 1) from nI_add _ 1, if_pos (zin_nI (by omega) (by decide)), zcl (by omega), r_lineOf hy hyb (by omega), if_pos (zin_nI (by omega) (by decide)), zcl (by omega), hr, show r (48 + 4 * bpl y m + 1) = bFc r y m from rfl, show r (48 + 4 * bpl y m) = bM r y m from rfl, dnm m (by omega)]
          by_cases q1 : bFc r y m = bCa r y here
          · rw [if_pos q1]
            by_cases q2 : bM r y m < bM r y here
            · rw [if_pos q2, show nI n + (1 : Int32) = nI (n + 1) from nI_add n 1]
              rw [if_pos ⟨q1, q2⟩] at hm
              rw [if_neg (show ¬ (lbv r y (bCa r y here) (bM r y here) here = -1) by rw [← hm]; exact nI_m1 (by omega)), ← hm, zcl (by omega)] at hq
              rw [← q1]
              exact ih m (n + 1) (by omega) (by omega) (by omega) hq _ _
            · rw [if_neg q2]
              rw [if_neg (fun q => q2 q.2)] at hm
              exact ih2 (by omega) hm
          · rw [if_neg q1]
            rw [if_neg (fun q => q1 q.1)] at hm
            exact ih2 (by omega) hm
      exact key here (Nat.le_refl _) rfl
theorem call_back {d e b : Nat} {σ : zS} (x : Int32) (h : Inv b σ) : Both (d + 4) 99 [.ref 0, .int x] (e + 4) 226 [.ref 214, .int x] b σ := by
  obtain ⟨c, l, t, ht, hc, hcb, -⟩ := h.past
  obtain ⟨y, hb, hy⟩ := hcb.y
  have hbN : (if y < 60 then y else 60) ≤ 60 := by split <;> omega
  generalize hN : (if y < 60 then y else 60) = N at hbN
  have h215 : ∀ σ3, Fr tC σ σ3 → (zup σ3 214 12 0) 215 = σ 215 := fun σ3 f3 => (tR_215 fr12.rT).trans (tC_215 f3)
  by_cases hx : x < 0 ∨ nI N ≤ x
  · refine both_q h (-1) none (fun Q hq => ?_) (fun σ3 f3 Q hq => ?_)
    · refine k_99_0 ?_
      refine k_13_0 ?_
      rw [hb.2.1, hN]
      rcases hx with hx | hx
      · rw [if_pos hx, if_pos rfl]; exact hq σ Fr.rf
      · by_cases h0 : x < 0
        · rw [if_pos h0, if_pos rfl]; exact hq σ Fr.rf
        · rw [if_neg h0, if_neg (Int32.not_lt.mpr hx), if_pos rfl]; exact hq σ Fr.rf
    · refine k_226_0 ?_
      rw [r_bookMany (y := y) (by rw [h215 σ3 f3]; exact hy) hb.1, hN, s_in]
      by_cases h0 : x < 0
      · rw [if_pos h0, if_pos rfl]; exact hq _ fr12
      · have hx2 : nI N ≤ x := hx.resolve_left h0
        rw [if_neg h0, if_pos (show nI N - 1 < x from by
          by_cases q : N = 0
          · subst q
            rw [dn0]
            rw [Int32.lt_iff_toInt_lt] at h0 ⊢
            have e1 : (-1 : Int32).toInt = -1 := by decide
            have e2 : (0 : Int32).toInt = 0 := by decide
            omega
          · obtain ⟨k, rfl⟩ : ∃ k, N = k + 1 := ⟨N - 1, by omega⟩
            rw [dn1]
            rw [Int32.le_iff_toInt_le, nI_toInt (by omega)] at hx2
            rw [Int32.lt_iff_toInt_lt, nI_toInt (by omega)]
            omega), if_pos rfl]
        exact hq _ fr12
  · have hx0 : ¬ x < 0 := fun q => hx (Or.inl q)
    have hxN : ¬ nI N ≤ x := fun q => hx (Or.inr q)
    obtain ⟨i, hi, rfl⟩ : ∃ i, i < N ∧ x = nI i := by
      obtain ⟨j, hj, e⟩ := nI_of (x := x) (by
        rw [Int32.lt_iff_toInt_lt] at hx0 ⊢
        have e2 : (0 : Int32).toInt = 0 := by decide
        omega)
      refine ⟨j, ?_, e⟩
      rw [e, Int32.le_iff_toInt_le, nI_toInt (by omega), nI_toInt hj] at hxN
      omega
    have hi60 : i < 60 := by omega
    refine both_q h (bkr (σ 215) y 60 i 0).1 (some (2, tv2 (bkr (σ 215) y 60 i 0).2.1 (bkr (σ 215) y 60 i 0).2.2)) (fun Q hq => ?_) (fun σ3 f3 Q hq => ?_)
    · refine k_99_0 ?_
      refine k_13_0 ?_
      rw [hb.2.1, hN, if_neg hx0, if_pos (nI_lt hi (by omega)), if_neg (by decide), (c_bookGet hb hi60 _).1]
      exact c_back hb (nI i) 60 i 0 0 (by omega) (by omega) (by omega) (fun σ' f' t' => hq σ' ⟨by decide, f'.sTC, t'⟩) _
    · refine k_226_0 ?_
      have e215 := h215 σ3 f3
      have ey : (zup σ3 214 12 0) 215 47 = nI y := by rw [e215]; exact hy
      have hbp := bpl_lt y i
      obtain ⟨N1, rfl⟩ : ∃ k, N = k + 1 := ⟨N - 1, by omega⟩
      rw [r_bookMany ey hb.1, hN, s_in, if_neg hx0, dn1, if_neg (nI_nlt (by omega) (by omega)), if_neg (by decide), r_lineOf ey hb.1 (by omega), show nI (48 + 4 * bpl y i) + (1 : Int32) = nI (48 + 4 * bpl y i + 1) from nI_add _ 1, if_pos (zin_nI (by omega) (by decide)), zcl (by omega)]
      rw [show (zup σ3 214 12 0) 215 (48 + 4 * bpl y i + 1) = bFc (σ 215) y i by rw [e215]; rfl]
      exact r_back (r := σ 215) e215 ey hb.1 (nI i) 60 i 0 (by omega) hi60 (by omega) (fun σ' f' t' => hq σ' ⟨Fr.tr fr12.rT f'.sTR, t'⟩) _ _
