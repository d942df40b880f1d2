/-! what calls are told, and small answers -/
theorem faceC (x : Int32) {F : Nat} (h9 : F ≤ 9) : (x < 0 ∨ nI F ≤ x) ∨ ∃ f, f < F ∧ x = nI f := by
  rcases pk_ix x (n := F) (by omega) with h | h | ⟨j, h1, h2⟩
  · exact Or.inl (Or.inl h)
  · exact Or.inl (Or.inr h)
  · exact Or.inr ⟨j, h1, h2⟩
theorem i_le_iff {a b : Int32} : (a ≤ b) ↔ ¬ (b < a) := by
  have e1 : ∀ a b : Int32, a < b ↔ a.toInt < b.toInt := fun a b => Int32.lt_iff_toInt_lt
  have e2 : ∀ a b : Int32, a ≤ b ↔ a.toInt ≤ b.toInt := fun a b => Int32.le_iff_toInt_le
  rw [e1, e2]; omega
theorem rngC (x : Int32) (lo hi : Nat) (hlo : lo < 1000000000) (hh : hi < 1000000000) : (x < nI lo ∨ nI hi < x) ∨ ∃ n, lo ≤ n ∧ n ≤ hi ∧ x = nI n := by
  have e1 : ∀ a b : Int32, a < b ↔ a.toInt < b.toInt := fun a b => Int32.lt_iff_toInt_lt
  by_cases h1 : x < nI lo
  · exact Or.inl (Or.inl h1)
  by_cases h2 : nI hi < x
  · exact Or.inl (Or.inr h2)
  rw [e1, nI_toInt (by omega)] at h1
  rw [e1, nI_toInt (by omega)] at h2
  obtain ⟨j, hj, e⟩ := nI_of (x := x) (by rw [e1, show (0 : Int32).toInt = 0 from by decide]; omega)
  rw [e, nI_toInt hj] at h1 h2
  exact Or.inr ⟨j, by omega, by omega, e⟩
theorem c_isFace1 {d : Nat} {σ : zS} {F f : Nat} (hF : σ 14 3 = nI F) (h9 : F ≤ 9) (hf : f < F) (Q : Int32 → zS → Prop) : ZC (d + 1) 134 [.ref 0, .int (nI f)] σ Q = Q 1 σ :=
  s_of (fun Q h => k_134_0 (by rw [hF, if_neg (nI_pos (by omega)), if_pos (nI_lt hf (by omega))]; exact h)) Q
theorem c_isFace0 {d : Nat} {σ : zS} {F : Nat} (hF : σ 14 3 = nI F) {x : Int32} (hx : x < 0 ∨ nI F ≤ x) (Q : Int32 → zS → Prop) : ZC (d + 1) 134 [.ref 0, .int x] σ Q = Q 0 σ := by
  refine s_of (fun Q h => k_134_0 ?_) Q
  rw [hF]
  by_cases h0 : x < 0
  · rw [if_pos h0]; exact h
  · rw [if_neg h0, if_neg (i_le_iff.mp (hx.resolve_left h0))]; exact h
theorem r_isFace1 {d : Nat} {σ : zS} {F f : Nat} (hF : σ 214 1 = nI F) (h9 : F ≤ 9) (hf : f < F) (Q : Int32 → zS → Prop) : ZC (d + 2) 175 [.ref 214, .int (nI f)] σ Q = Q 1 σ := by
  rw [r_isFace, hF, if_neg (nI_pos (by omega)), if_neg (by rw [zpred _ (by omega)]; exact fun q => q (nI_lt hf (by omega)))]
theorem r_isFace0 {d : Nat} {σ : zS} {F : Nat} (hF : σ 214 1 = nI F) (h9 : F ≤ 9) {x : Int32} (hx : x < 0 ∨ nI F ≤ x) (Q : Int32 → zS → Prop) : ZC (d + 2) 175 [.ref 214, .int x] σ Q = Q 0 σ := by
  rw [r_isFace, hF]
  by_cases h0 : x < 0
  · rw [if_pos h0]
  · rw [if_neg h0, if_pos (by rw [zpred _ (by omega)]; exact i_le_iff.mp (hx.resolve_left h0))]
theorem s_isIn1 {d : Nat} {σ : zS} {n lo hi : Nat} (h1 : lo ≤ n) (h2 : n ≤ hi) (hh : hi < 1000000000) (Q : Int32 → zS → Prop) : ZC (d + 1) 133 [.int (nI n), .int (nI lo), .int (nI hi)] σ Q = Q 1 σ := by
  rw [s_isIn, if_neg (nI_nlt h1 (by omega)), if_neg (nI_nlt h2 (by omega))]
theorem s_isIn0 {d : Nat} {σ : zS} {x a b : Int32} (h : x < a ∨ b < x) (Q : Int32 → zS → Prop) : ZC (d + 1) 133 [.int x, .int a, .int b] σ Q = Q 0 σ := by
  rw [s_isIn]
  by_cases h0 : x < a
  · rw [if_pos h0]
  · rw [if_neg h0, if_pos (h.resolve_left h0)]
theorem s_in1 {d : Nat} {σ : zS} {n lo hi : Nat} (h1 : lo ≤ n) (h2 : n ≤ hi) (hh : hi < 1000000000) (Q : Int32 → zS → Prop) : ZC (d + 1) 171 [.int (nI n), .int (nI lo), .int (nI hi)] σ Q = Q 1 σ := by
  rw [s_in, if_neg (nI_nlt h1 (by omega)), if_neg (nI_nlt h2 (by omega))]
theorem s_in0 {d : Nat} {σ : zS} {x a b : Int32} (h : x < a ∨ b < x) (Q : Int32 → zS → Prop) : ZC (d + 1) 171 [.int x, .int a, .int b] σ Q = Q 0 σ := by
  rw [s_in]
  by_cases h0 : x < a
  · rw [if_pos h0]
  · rw [if_neg h0, if_pos (h.resolve_left h0)]
theorem r_isMore1 {d : Nat} {σ : zS} {n : Nat} (h1 : 1 ≤ n) (h2 : n ≤ 300) (Q : Int32 → zS → Prop) : ZC (d + 2) 178 [.int (nI n)] σ Q = Q 1 σ := by
  rw [r_isMore, if_neg (show ¬ nI n < 1 from nI_nlt (a := n) (b := 1) h1 (by omega)), if_neg (show ¬ 300 < nI n from nI_nlt (a := 300) (b := n) h2 (by omega))]
theorem r_isMore0 {d : Nat} {σ : zS} {x : Int32} (h : x < 1 ∨ 300 < x) (Q : Int32 → zS → Prop) : ZC (d + 2) 178 [.int x] σ Q = Q 0 σ := by
  rw [r_isMore]
  by_cases h0 : x < 1
  · rw [if_pos h0]
  · rw [if_neg h0, if_pos (h.resolve_left h0)]
/-- a face may yawn -/
def cyw (r : Nat → Int32) (f : Nat) : Bool := !zb (r 45) f && decide (r (18 + f) = -1)
theorem c_isPresent {d : Nat} {σ : zS} {F f : Nat} {r : Nat → Int32} (hF : σ 14 3 = nI F) (h9 : F ≤ 9) (h45 : σ 17 5 = r 45) (hf : f < F) (Q : Int32 → zS → Prop) : ZC (d + 4) 135 [.ref 0, .int (nI f)] σ Q = Q (b2i (!zb (r 45) f)) σ := by
  refine s_of (fun Q h => k_135_0 ?_) Q
  have h10 : ((1 : Int32) = 0) = False := by decide
  rw [c_isFace1 hF h9 hf, c_present14, s_hasN _ (by omega), hF, h45, zb_and, zb_all F h9 f (by omega), zb_not (by omega)]
  simp only [h10, ↓reduceIte, hf, decide_true, Bool.true_and]
  cases hz : zb (r 45) f <;> rw [hz] at h <;> simp only [Bool.not_false, Bool.not_true, b2i_0, Bool.true_eq_false, ↓reduceIte] at h ⊢ <;> exact h
theorem c_canYawn {d : Nat} {σ : zS} {F f : Nat} {r : Nat → Int32} (hF : σ 14 3 = nI F) (h9 : F ≤ 9) (hcm : CM 17 F r σ) (hf : f < F) (Q : Int32 → zS → Prop) : ZC (d + 5) 136 [.ref 0, .int (nI f)] σ Q = Q (b2i (cyw r f)) σ := by
  refine s_of (fun Q h => k_136_0 ?_) Q
  rw [c_isPresent hF h9 hcm.2.2.2.1 hf]
  simp (disch := omega) only [zup_eq, zput_app, zput_twice, upd_same, nI_1, za2, zA2, zm2, za3, zA3, zm3, za4, zA4, zm4, za9, zA9, zm9, za10, zA10, zm10, za18, zA18, zm18, za27, zA27, zm27, za36, zA36, zm36, za48, zA48, zm48, za288, zA288, zm288, zcl, zinT, upd_ne, upd_eq, zlt, znlt, zl2, zn2_, zl3, zn3_, zl5, zn5_, zl9, zn9_, zl10, zn10_, zl16, zn16_, zl20, zn20_, zl40, zn40_, zl60, zn60_, zl76, zn76_, zl80, zn80_, zl288, zn288_, zl300, zn300_, zneg, Nat.reduceEqDiff, Nat.reduceAdd, ↓reduceIte, b2i_0]
  have e : σ 20 f = r (18 + f) := (hcm.1 f hf).2.2.1
  rw [e]
  unfold cyw at h
  cases hz : zb (r 45) f
  · rw [hz] at h
    simp only [Bool.not_false, Bool.true_eq_false, ↓reduceIte, Bool.true_and] at h ⊢
    by_cases hq : r (18 + f) = -1
    · rw [if_pos hq]; rw [decide_eq_true hq] at h; exact h
    · rw [if_neg hq]; rw [decide_eq_false hq] at h; exact h
  · rw [hz] at h
    simp only [Bool.not_true, Bool.false_and, ↓reduceIte] at h ⊢
    exact h
theorem r_canYawn {d : Nat} {σ : zS} {F f : Nat} (hF : σ 214 1 = nI F) (h9 : F ≤ 9) (hf : f < F) (Q : Int32 → zS → Prop) : ZC (d + 3) 210 [.ref 214, .ref 215, .int (nI f)] σ Q = Q (b2i (cyw (σ 215) f)) σ := by
  refine s_of (fun Q h => k_210_0 ?_) Q
  have h10 : ((1 : Int32) = 0) = False := by decide
  rw [r_isFace1 hF h9 hf]
  simp (disch := omega) only [zup_eq, zput_app, zput_twice, upd_same, nI_1, za2, zA2, zm2, za3, zA3, zm3, za4, zA4, zm4, za9, zA9, zm9, za10, zA10, zm10, za18, zA18, zm18, za27, zA27, zm27, za36, zA36, zm36, za48, zA48, zm48, za288, zA288, zm288, zcl, zinT, upd_ne, upd_eq, zlt, znlt, zl2, zn2_, zl3, zn3_, zl5, zn5_, zl9, zn9_, zl10, zn10_, zl16, zn16_, zl20, zn20_, zl40, zn40_, zl60, zn60_, zl76, zn76_, zl80, zn80_, zl288, zn288_, zl300, zn300_, zneg, Nat.reduceEqDiff, Nat.reduceAdd, ↓reduceIte, s_hasR, b2i_0, h10]
  unfold cyw at h
  cases hz : zb (σ 215 45) f
  · rw [hz] at h
    simp only [Bool.not_false, ↓reduceIte, Bool.true_and] at h ⊢
    by_cases hq : σ 215 (18 + f) = -1
    · rw [if_pos hq]; rw [decide_eq_true hq] at h; exact h
    · rw [if_neg hq]; rw [decide_eq_false hq] at h; exact h
  · rw [hz] at h
    simp only [Bool.not_true, Bool.false_and, Bool.true_eq_false, ↓reduceIte] at h ⊢
    exact h
