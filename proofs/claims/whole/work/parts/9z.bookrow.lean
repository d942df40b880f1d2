theorem m1 (y N : Nat) : nI (N + 1) - (1 : Int32) = nI N := dn1 N
/-- the lines that the book has -/
def inN (x : Int32) (N : Nat) : Prop := ¬ x < 0 ∧ ∃ i, i < N ∧ x = nI i
theorem inN_or (x : Int32) (N : Nat) (hN : N < 1000000) : (x < 0 ∨ nI N ≤ x) ∨ ∃ i, i < N ∧ x = nI i := by
  by_cases h0 : x < 0
  · exact Or.inl (Or.inl h0)
  · by_cases h1 : nI N ≤ x
    · exact Or.inl (Or.inr h1)
    · refine Or.inr ?_
      obtain ⟨j, hj, e⟩ := nI_of (x := x) (by
        rw [Int32.lt_iff_toInt_lt] at h0 ⊢
        have e2 : (0 : Int32).toInt = 0 := by decide
        omega)
      refine ⟨j, ?_, e⟩
      rw [e, Int32.le_iff_toInt_le, nI_toInt (by omega), nI_toInt hj] at h1
      omega
/-- x between 0 and N - 1, as the reference asks -/
theorem s_inP {d N : Nat} {x : Int32} {σ : zS} (hN : N < 1000000) (Q : Int32 → zS → Prop) : ((x < 0 ∨ nI N ≤ x) → ZC (d + 1) 171 [.int x, .int 0, .int (nI N - 1)] σ Q = Q 0 σ) ∧ (∀ i, i < N → x = nI i → ZC (d + 1) 171 [.int x, .int 0, .int (nI N - 1)] σ Q = Q 1 σ) := by
  constructor
  · intro hx
    refine s_in0 ?_ Q
    by_cases h0 : x < 0
    · exact Or.inl h0
    · have hx2 : nI N ≤ x := hx.resolve_left h0
      refine Or.inr ?_
      by_cases q : N = 0
      · subst q
        rw [dn0]
        rw [Int32.lt_iff_toInt_lt] at h0 ⊢
        have e1 : (-1 : Int32).toInt = -1 := by decide
        have e2 : (0 : Int32).toInt = 0 := by decide
        omega
      · obtain ⟨k, rfl⟩ : ∃ k, N = k + 1 := ⟨N - 1, by omega⟩
        rw [dn1]
        rw [Int32.le_iff_toInt_le, nI_toInt (by omega)] at hx2
        rw [Int32.lt_iff_toInt_lt, nI_toInt (by omega)]
        omega
  · rintro i hi rfl
    obtain ⟨k, rfl⟩ : ∃ k, N = k + 1 := ⟨N - 1, by omega⟩
    rw [dn1, s_in, if_neg (nI_pos (by omega)), if_neg (nI_nlt (by omega) (by omega))]
theorem call_rowX {e b k : Nat} {σ : zS} {x : Int32} (h : Inv b σ) (hk : σ 214 11 = nI k) (hk16 : k ≤ 16) (hx : x < 0 ∨ nI k ≤ x) : Lost (e + 3) 273 [.ref 214, .int x] b σ := by
  refine lost_q h (fun Q hq => ?_)
  refine k_273_0 ?_
  rw [hk, (s_inP (by omega) _).1 hx, if_pos rfl]
  exact r_lost _ hq
theorem call_row {d e b k i : Nat} {σ : zS} (h : Inv b σ) (hk0 : σ 0 12 = nI k) (hk : σ 214 11 = nI k) (hk16 : k ≤ 16) (hi : i < k) (he : σ 190 i = σ 220 i) : Ans (d + 1) 130 [.ref 0, .int (nI i)] (e + 3) 273 [.ref 214, .int (nI i)] b σ := by
  have z1 : zin (nI i) 16 = true := zin_nI (by omega) (by decide)
  refine ans_q h (σ 220 i) (fun Q hq => ?_) (fun Q hq => ?_)
  · refine k_130_0 ?_
    rw [if_neg (nI_pos (by omega)), hk0, if_pos (nI_lt hi (by omega)), if_pos (show nI i < Int32.ofNat 16 from nI_lt (b := 16) (by omega) (by decide)), if_pos z1, zcl (by omega), he]
    exact hq
  · refine k_273_0 ?_
    rw [hk, (s_inP (by omega) _).2 i hi rfl, if_neg (by decide), if_pos z1, zcl (by omega)]
    exact hq
theorem call_bookX {e b y : Nat} {σ : zS} {x z : Int32} (h : Inv b σ) (hy : σ 215 47 = nI y) (hyb : y < 1073741824) (hx : (x < 0 ∨ nI (if y < 60 then y else 60) ≤ x) ∨ z < 0 ∨ 4 < z) : Lost (e + 3) 225 [.ref 214, .int x, .int z] b σ := by
  have hN : (if y < 60 then y else 60) ≤ 60 := by split <;> omega
  refine lost_q h (fun Q hq => ?_)
  refine k_225_0 ?_
  rw [r_bookMany (σ := zup σ 214 12 0) hy hyb]
  rcases inN_or x (if y < 60 then y else 60) (by omega) with h1 | ⟨i, hi, rfl⟩
  · rw [(s_inP (by omega) _).1 h1, if_pos rfl]
    exact r_lost _ hq
  · rw [(s_inP (by omega) _).2 i hi rfl, if_neg (by decide)]
    rcases hx with hx | hx
    · exfalso
      rcases hx with hx | hx
      · exact nI_pos (by omega) hx
      · rw [Int32.le_iff_toInt_le, nI_toInt (by omega), nI_toInt (by omega)] at hx
        omega
    · rw [s_in0 hx, if_pos rfl]
      exact r_lost _ hq
