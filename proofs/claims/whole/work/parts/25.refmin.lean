/-! the reference's minute -/
def pG (o i : Nat) : Bool := decide (o = 214) && (decide (13 ≤ i ∧ i ≤ 17) || decide (21 ≤ i ∧ i ≤ 25))
def pR (A o i : Nat) : Bool := decide (o = A) || (decide (o = 214) && (decide (13 ≤ i ∧ i ≤ 17) || decide (21 ≤ i ∧ i ≤ 28)))
/-- the rule is asked, of the row A -/
def CK (d A : Nat) (rv : (Nat → Int32) → Bool) (W : Nat) (wr : Nat → Int32) (σ : zS) : Prop := ∀ σ', Fr (pR A) σ σ' → ∀ f o : Nat, f < 9 → o < 9 → ∀ (n x : Int32) (t : Nat), σ' A 46 = nI t → t < 1073741824 → ∀ Q : Int32 → zS → Prop, (∀ σ'', Fr pG σ' σ'' → Q (b2i (rv (vv (σ' A f) (σ' A o) (σ' A (9 + f)) n (wd W wr t) (nI t) (nI f) (nI o) x))) σ'') → ZC d 199 [.ref 214, .ref A, .int (nI f), .int (nI o), .int n, .int x] σ' Q
def tc (fr : Bool) (r : Nat → Int32) (f : Nat) : Bool := !zb (r 45) f && !fr && decide (r f = 9) && decide (r (18 + f) = -1)
theorem tc_yw {fr : Bool} {r : Nat → Int32} {f : Nat} (h : tc fr r f = true) : yw fr r f = true := by
  unfold tc at h
  unfold yw
  simp only [Bool.and_eq_true] at h
  simp [h.1.1.1, h.1.1.2, h.1.2, h.2]
/-- due where tiredness makes it so, from face j on, up to face k -/
def fx (fr : Bool) (r : Nat → Int32) (j k : Nat) (q : Nat → Int32) : Nat → Int32 := fun i => if 18 + j ≤ i ∧ i < 18 + k ∧ tc fr r (i - 18) = true then r 46 else q i
theorem fx_out {fr : Bool} {r : Nat → Int32} {j k : Nat} {q : Nat → Int32} {i : Nat} (h : i < 18 + j ∨ 18 + k ≤ i) : fx fr r j k q i = q i := if_neg (by omega)
theorem fx_none {fr : Bool} {r : Nat → Int32} {j : Nat} {q : Nat → Int32} : fx fr r j j q = q := by
  funext i
  exact if_neg (by omega)
theorem fx_end {fr : Bool} {r : Nat → Int32} {j k : Nat} {q : Nat → Int32} (hk : j ≤ k) (h : tc fr r k = true) : upd (fx fr r j k q) (18 + k) (r 46) = fx fr r j (k + 1) q := by
  funext i
  simp only [upd, fx]
  by_cases h1 : i = 18 + k
  · subst h1
    rw [if_pos rfl, if_pos ⟨by omega, by omega, by rw [show 18 + k - 18 = k by omega]; exact h⟩]
  · rw [if_neg h1]
    by_cases h2 : 18 + j ≤ i ∧ i < 18 + k ∧ tc fr r (i - 18) = true
    · rw [if_pos h2, if_pos ⟨h2.1, by omega, h2.2.2⟩]
    · rw [if_neg h2, if_neg (fun h3 => h2 ⟨h3.1, by omega, h3.2.2⟩)]
theorem fx_endn {fr : Bool} {r : Nat → Int32} {j k : Nat} {q : Nat → Int32} (h : tc fr r k = false) : fx fr r j k q = fx fr r j (k + 1) q := by
  funext i
  simp only [fx]
  by_cases h1 : i = 18 + k
  · subst h1
    rw [if_neg (by omega), if_neg (fun h3 => by rw [show 18 + k - 18 = k by omega, h] at h3; cases h3.2.2)]
  · by_cases h2 : 18 + j ≤ i ∧ i < 18 + k ∧ tc fr r (i - 18) = true
    · rw [if_pos h2, if_pos ⟨h2.1, by omega, h2.2.2⟩]
    · rw [if_neg h2, if_neg (fun h3 => h2 ⟨h3.1, by omega, h3.2.2⟩)]
theorem fx_beg {fr : Bool} {r : Nat → Int32} {j k : Nat} {q : Nat → Int32} (h : tc fr r j = false) : fx fr r j k q = fx fr r (j + 1) k q := by
  funext i
  simp only [fx]
  by_cases h1 : i = 18 + j
  · subst h1
    rw [if_neg (fun h3 => by rw [show 18 + j - 18 = j by omega, h] at h3; cases h3.2.2), if_neg (by omega)]
  · by_cases h2 : 18 + j ≤ i ∧ i < 18 + k ∧ tc fr r (i - 18) = true
    · rw [if_pos h2, if_pos ⟨by omega, h2.2⟩]
    · rw [if_neg h2, if_neg (fun h3 => h2 ⟨by omega, h3.2⟩)]
theorem fx_gy {fr : Bool} {r : Nat → Int32} {j k : Nat} {q : Nat → Int32} {m : Int32} (hj : j < 9) (hk : k ≤ 9) : gy fr m (fx fr r j k q) j = fx fr r (j + 1) k (gy fr m q j) := by
  funext i
  by_cases h1 : i < 47
  · rw [gy_at hj h1]
    simp only [fx]
    rw [gy_at hj h1]
    by_cases h2 : i = 18 + j
    · subst h2
      rw [if_pos (Or.inl rfl), if_neg (by omega), if_pos (Or.inl rfl)]
    · by_cases h3 : 18 + j ≤ i ∧ i < 18 + k ∧ tc fr r (i - 18) = true
      · rw [if_neg (by omega), if_neg (by omega), if_neg (by omega), if_neg (by omega), if_pos h3, if_pos ⟨by omega, h3.2⟩]
      · rw [if_neg (fun h4 => h3 ⟨by omega, h4.2⟩) (c := 18 + (j + 1) ≤ i ∧ i < 18 + k ∧ tc fr r (i - 18) = true), if_neg h3]
        rw [if_neg (c := 18 + j ≤ j ∧ j < 18 + k ∧ tc fr r (j - 18) = true) (by omega)]
  · rw [fx_out (Or.inr (by omega))]
    by_cases h2 : i = 47
    · subst h2
      rw [gy_47 hj, gy_47 hj, fx_out (Or.inr (by omega))]
    · rw [gy_bk hj (by omega), gy_bk hj (by omega)]
      unfold bkw
      try dsimp only
      rw [fx_out (i := 47) (Or.inr (by omega)), fx_out (i := 27 + j) (Or.inr (by omega)), fx_out (i := 36 + j) (Or.inr (by omega))]
      simp only [upd]
      rw [fx_out (i := i) (Or.inr (by omega))]
theorem r_goYawn215 {d : Nat} {σ : zS} {f y : Nat} (hf : f < 9) {fr : Bool} (hfr : σ 214 7 = b2i fr) (hy : σ 215 47 = nI y) (hyb : y < 1073741824) (m : Int32) (Q : Int32 → zS → Prop) : ZC (d + 2) 206 [.ref 214, .ref 215, .int (nI f), .int m] σ Q = Q 0 (zput (zput σ 214 (upd (σ 214) 28 (σ 214 28 ||| zshl (σ 215 (36 + f)) (nI f)))) 215 (gy fr m (σ 215) f)) := by
  refine s_of (fun Q h => k_206_0_i214_215 ?_) Q
  have hb : y % 60 < 60 := Nat.mod_lt _ (by decide)
  have e0 : (48 : Int32) + 4 * zrem (σ 215 47) 60 = nI (48 + 4 * (y % 60)) := by
    rw [hy, show (60 : Int32) = nI 60 from rfl, zrem_nI (by omega) (by decide) (by decide), zm4, za48]
  unfold gy gcl gyo bkw at h
  simp only [hy, zcl (k := y) (by omega)] at h
  rw [e0]
  generalize hp : 48 + 4 * (y % 60) = p at h ⊢
  have hp1 : 48 ≤ p := by omega
  have hp2 : p + 3 < 288 := by omega
  refine k_206_14_i214_215 ?_
  simp (disch := omega) only [zup_eq, zput_app, zput_twice, zput_comm, upd_same, nI_1, za2, zA2, zm2, za3, zA3, zm3, za4, zA4, zm4, za9, zA9, zm9, za10, zA10, zm10, za18, zA18, zm18, za27, zA27, zm27, za36, zA36, zm36, za48, zA48, zm48, za288, zA288, zm288, zcl, zinT, upd_ne, upd_eq, zlt, znlt, zl2, zn2_, zl3, zn3_, zl5, zn5_, zl9, zn9_, zl10, zn10_, zl16, zn16_, zl20, zn20_, zl40, zn40_, zl60, zn60_, zl76, zn76_, zl80, zn80_, zl288, zn288_, zl300, zn300_, zneg, Nat.reduceEqDiff, Nat.reduceAdd, ↓reduceIte]
  refine k_206_26_i214_215 ?_
  simp (disch := omega) only [zup_eq, zput_app, zput_twice, zput_comm, upd_same, nI_1, za2, zA2, zm2, za3, zA3, zm3, za4, zA4, zm4, za9, zA9, zm9, za10, zA10, zm10, za18, zA18, zm18, za27, zA27, zm27, za36, zA36, zm36, za48, zA48, zm48, za288, zA288, zm288, zcl, zinT, upd_ne, upd_eq, zlt, znlt, zl2, zn2_, zl3, zn3_, zl5, zn5_, zl9, zn9_, zl10, zn10_, zl16, zn16_, zl20, zn20_, zl40, zn40_, zl60, zn60_, zl76, zn76_, zl80, zn80_, zl288, zn288_, zl300, zn300_, zneg, Nat.reduceEqDiff, Nat.reduceAdd, ↓reduceIte]
  refine k_206_38_i214_215 ?_
  simp (disch := omega) only [zup_eq, zput_app, zput_twice, zput_comm, upd_same, nI_1, za2, zA2, zm2, za3, zA3, zm3, za4, zA4, zm4, za9, zA9, zm9, za10, zA10, zm10, za18, zA18, zm18, za27, zA27, zm27, za36, zA36, zm36, za48, zA48, zm48, za288, zA288, zm288, zcl, zinT, upd_ne, upd_eq, zlt, znlt, zl2, zn2_, zl3, zn3_, zl5, zn5_, zl9, zn9_, zl10, zn10_, zl16, zn16_, zl20, zn20_, zl40, zn40_, zl60, zn60_, zl76, zn76_, zl80, zn80_, zl288, zn288_, zl300, zn300_, zneg, Nat.reduceEqDiff, Nat.reduceAdd, ↓reduceIte]
  refine k_206_50_i214_215 ?_
  simp (disch := omega) only [zup_eq, zput_app, zput_twice, zput_comm, upd_same, nI_1, za2, zA2, zm2, za3, zA3, zm3, za4, zA4, zm4, za9, zA9, zm9, za10, zA10, zm10, za18, zA18, zm18, za27, zA27, zm27, za36, zA36, zm36, za48, zA48, zm48, za288, zA288, zm288, zcl, zinT, upd_ne, upd_eq, zlt, znlt, zl2, zn2_, zl3, zn3_, zl5, zn5_, zl9, zn9_, zl10, zn10_, zl16, zn16_, zl20, zn20_, zl40, zn40_, zl60, zn60_, zl76, zn76_, zl80, zn80_, zl288, zn288_, zl300, zn300_, zneg, Nat.reduceEqDiff, Nat.reduceAdd, ↓reduceIte, hy]
  refine k_206_58_i214_215 ?_
  simp (disch := omega) only [zup_eq, zput_app, zput_twice, zput_comm, upd_same, nI_1, za2, zA2, zm2, za3, zA3, zm3, za4, zA4, zm4, za9, zA9, zm9, za10, zA10, zm10, za18, zA18, zm18, za27, zA27, zm27, za36, zA36, zm36, za48, zA48, zm48, za288, zA288, zm288, zcl, zinT, upd_ne, upd_eq, zlt, znlt, zl2, zn2_, zl3, zn3_, zl5, zn5_, zl9, zn9_, zl10, zn10_, zl16, zn16_, zl20, zn20_, zl40, zn40_, zl60, zn60_, zl76, zn76_, zl80, zn80_, zl288, zn288_, zl300, zn300_, zneg, Nat.reduceEqDiff, Nat.reduceAdd, ↓reduceIte]
  refine k_206_75_i214_215 ?_
  simp (disch := omega) only [zup_eq, zput_app, zput_twice, zput_comm, upd_same, nI_1, za2, zA2, zm2, za3, zA3, zm3, za4, zA4, zm4, za9, zA9, zm9, za10, zA10, zm10, za18, zA18, zm18, za27, zA27, zm27, za36, zA36, zm36, za48, zA48, zm48, za288, zA288, zm288, zcl, zinT, upd_ne, upd_eq, zlt, znlt, zl2, zn2_, zl3, zn3_, zl5, zn5_, zl9, zn9_, zl10, zn10_, zl16, zn16_, zl20, zn20_, zl40, zn40_, zl60, zn60_, zl76, zn76_, zl80, zn80_, zl288, zn288_, zl300, zn300_, zneg, Nat.reduceEqDiff, Nat.reduceAdd, ↓reduceIte]
  refine k_206_85_i214_215 ?_
  cases fr
  · simp (disch := omega) only [zup_eq, zput_app, zput_twice, zput_comm, upd_same, nI_1, za2, zA2, zm2, za3, zA3, zm3, za4, zA4, zm4, za9, zA9, zm9, za10, zA10, zm10, za18, zA18, zm18, za27, zA27, zm27, za36, zA36, zm36, za48, zA48, zm48, za288, zA288, zm288, zcl, zinT, upd_ne, upd_eq, zlt, znlt, zl2, zn2_, zl3, zn3_, zl5, zn5_, zl9, zn9_, zl10, zn10_, zl16, zn16_, zl20, zn20_, zl40, zn40_, zl60, zn60_, zl76, zn76_, zl80, zn80_, zl288, zn288_, zl300, zn300_, zneg, Nat.reduceEqDiff, Nat.reduceAdd, ↓reduceIte, hfr, b2i_0, s_max]
    refine k_206_104_i214_215 ?_
    rw [r_clear215 hf]
    simp (disch := omega) only [zup_eq, zput_app, zput_twice, zput_comm, upd_same, nI_1, za2, zA2, zm2, za3, zA3, zm3, za4, zA4, zm4, za9, zA9, zm9, za10, zA10, zm10, za18, zA18, zm18, za27, zA27, zm27, za36, zA36, zm36, za48, zA48, zm48, za288, zA288, zm288, zcl, zinT, upd_ne, upd_eq, zlt, znlt, zl2, zn2_, zl3, zn3_, zl5, zn5_, zl9, zn9_, zl10, zn10_, zl16, zn16_, zl20, zn20_, zl40, zn40_, zl60, zn60_, zl76, zn76_, zl80, zn80_, zl288, zn288_, zl300, zn300_, zneg, Nat.reduceEqDiff, Nat.reduceAdd, ↓reduceIte, (fun s => zput_comm s (show 214 < 215 by decide)), gyt, Bool.false_eq_true, mx0] at h ⊢
    exact h
  · simp (disch := omega) only [zup_eq, zput_app, zput_twice, zput_comm, upd_same, nI_1, za2, zA2, zm2, za3, zA3, zm3, za4, zA4, zm4, za9, zA9, zm9, za10, zA10, zm10, za18, zA18, zm18, za27, zA27, zm27, za36, zA36, zm36, za48, zA48, zm48, za288, zA288, zm288, zcl, zinT, upd_ne, upd_eq, zlt, znlt, zl2, zn2_, zl3, zn3_, zl5, zn5_, zl9, zn9_, zl10, zn10_, zl16, zn16_, zl20, zn20_, zl40, zn40_, zl60, zn60_, zl76, zn76_, zl80, zn80_, zl288, zn288_, zl300, zn300_, zneg, Nat.reduceEqDiff, Nat.reduceAdd, ↓reduceIte, hfr, b2i_0, Bool.true_eq_false]
    refine k_206_104_i214_215 ?_
    rw [r_clear215 hf]
    simp (disch := omega) only [zup_eq, zput_app, zput_twice, zput_comm, upd_same, nI_1, za2, zA2, zm2, za3, zA3, zm3, za4, zA4, zm4, za9, zA9, zm9, za10, zA10, zm10, za18, zA18, zm18, za27, zA27, zm27, za36, zA36, zm36, za48, zA48, zm48, za288, zA288, zm288, zcl, zinT, upd_ne, upd_eq, zlt, znlt, zl2, zn2_, zl3, zn3_, zl5, zn5_, zl9, zn9_, zl10, zn10_, zl16, zn16_, zl20, zn20_, zl40, zn40_, zl60, zn60_, zl76, zn76_, zl80, zn80_, zl288, zn288_, zl300, zn300_, zneg, Nat.reduceEqDiff, Nat.reduceAdd, ↓reduceIte, (fun s => zput_comm s (show 214 < 215 by decide)), gyt] at h ⊢
    exact h
theorem r_goYawn226 {d : Nat} {σ : zS} {f y : Nat} (hf : f < 9) {fr : Bool} (hfr : σ 214 7 = b2i fr) (hy : σ 226 47 = nI y) (hyb : y < 1073741824) (m : Int32) (Q : Int32 → zS → Prop) : ZC (d + 2) 206 [.ref 214, .ref 226, .int (nI f), .int m] σ Q = Q 0 (zput (zput σ 214 (upd (σ 214) 28 (σ 214 28 ||| zshl (σ 226 (36 + f)) (nI f)))) 226 (gy fr m (σ 226) f)) := by
  refine s_of (fun Q h => k_206_0_i214_226 ?_) Q
  have hb : y % 60 < 60 := Nat.mod_lt _ (by decide)
  have e0 : (48 : Int32) + 4 * zrem (σ 226 47) 60 = nI (48 + 4 * (y % 60)) := by
    rw [hy, show (60 : Int32) = nI 60 from rfl, zrem_nI (by omega) (by decide) (by decide), zm4, za48]
  unfold gy gcl gyo bkw at h
  simp only [hy, zcl (k := y) (by omega)] at h
  rw [e0]
  generalize hp : 48 + 4 * (y % 60) = p at h ⊢
  have hp1 : 48 ≤ p := by omega
  have hp2 : p + 3 < 288 := by omega
  refine k_206_14_i214_226 ?_
  simp (disch := omega) only [zup_eq, zput_app, zput_twice, zput_comm, upd_same, nI_1, za2, zA2, zm2, za3, zA3, zm3, za4, zA4, zm4, za9, zA9, zm9, za10, zA10, zm10, za18, zA18, zm18, za27, zA27, zm27, za36, zA36, zm36, za48, zA48, zm48, za288, zA288, zm288, zcl, zinT, upd_ne, upd_eq, zlt, znlt, zl2, zn2_, zl3, zn3_, zl5, zn5_, zl9, zn9_, zl10, zn10_, zl16, zn16_, zl20, zn20_, zl40, zn40_, zl60, zn60_, zl76, zn76_, zl80, zn80_, zl288, zn288_, zl300, zn300_, zneg, Nat.reduceEqDiff, Nat.reduceAdd, ↓reduceIte]
  refine k_206_26_i214_226 ?_
  simp (disch := omega) only [zup_eq, zput_app, zput_twice, zput_comm, upd_same, nI_1, za2, zA2, zm2, za3, zA3, zm3, za4, zA4, zm4, za9, zA9, zm9, za10, zA10, zm10, za18, zA18, zm18, za27, zA27, zm27, za36, zA36, zm36, za48, zA48, zm48, za288, zA288, zm288, zcl, zinT, upd_ne, upd_eq, zlt, znlt, zl2, zn2_, zl3, zn3_, zl5, zn5_, zl9, zn9_, zl10, zn10_, zl16, zn16_, zl20, zn20_, zl40, zn40_, zl60, zn60_, zl76, zn76_, zl80, zn80_, zl288, zn288_, zl300, zn300_, zneg, Nat.reduceEqDiff, Nat.reduceAdd, ↓reduceIte]
  refine k_206_38_i214_226 ?_
  simp (disch := omega) only [zup_eq, zput_app, zput_twice, zput_comm, upd_same, nI_1, za2, zA2, zm2, za3, zA3, zm3, za4, zA4, zm4, za9, zA9, zm9, za10, zA10, zm10, za18, zA18, zm18, za27, zA27, zm27, za36, zA36, zm36, za48, zA48, zm48, za288, zA288, zm288, zcl, zinT, upd_ne, upd_eq, zlt, znlt, zl2, zn2_, zl3, zn3_, zl5, zn5_, zl9, zn9_, zl10, zn10_, zl16, zn16_, zl20, zn20_, zl40, zn40_, zl60, zn60_, zl76, zn76_, zl80, zn80_, zl288, zn288_, zl300, zn300_, zneg, Nat.reduceEqDiff, Nat.reduceAdd, ↓reduceIte]
  refine k_206_50_i214_226 ?_
  simp (disch := omega) only [zup_eq, zput_app, zput_twice, zput_comm, upd_same, nI_1, za2, zA2, zm2, za3, zA3, zm3, za4, zA4, zm4, za9, zA9, zm9, za10, zA10, zm10, za18, zA18, zm18, za27, zA27, zm27, za36, zA36, zm36, za48, zA48, zm48, za288, zA288, zm288, zcl, zinT, upd_ne, upd_eq, zlt, znlt, zl2, zn2_, zl3, zn3_, zl5, zn5_, zl9, zn9_, zl10, zn10_, zl16, zn16_, zl20, zn20_, zl40, zn40_, zl60, zn60_, zl76, zn76_, zl80, zn80_, zl288, zn288_, zl300, zn300_, zneg, Nat.reduceEqDiff, Nat.reduceAdd, ↓reduceIte, hy]
  refine k_206_58_i214_226 ?_
  simp (disch := omega) only [zup_eq, zput_app, zput_twice, zput_comm, upd_same, nI_1, za2, zA2, zm2, za3, zA3, zm3, za4, zA4, zm4, za9, zA9, zm9, za10, zA10, zm10, za18, zA18, zm18, za27, zA27, zm27, za36, zA36, zm36, za48, zA48, zm48, za288, zA288, zm288, zcl, zinT, upd_ne, upd_eq, zlt, znlt, zl2, zn2_, zl3, zn3_, zl5, zn5_, zl9, zn9_, zl10, zn10_, zl16, zn16_, zl20, zn20_, zl40, zn40_, zl60, zn60_, zl76, zn76_, zl80, zn80_, zl288, zn288_, zl300, zn300_, zneg, Nat.reduceEqDiff, Nat.reduceAdd, ↓reduceIte]
  refine k_206_75_i214_226 ?_
  simp (disch := omega) only [zup_eq, zput_app, zput_twice, zput_comm, upd_same, nI_1, za2, zA2, zm2, za3, zA3, zm3, za4, zA4, zm4, za9, zA9, zm9, za10, zA10, zm10, za18, zA18, zm18, za27, zA27, zm27, za36, zA36, zm36, za48, zA48, zm48, za288, zA288, zm288, zcl, zinT, upd_ne, upd_eq, zlt, znlt, zl2, zn2_, zl3, zn3_, zl5, zn5_, zl9, zn9_, zl10, zn10_, zl16, zn16_, zl20, zn20_, zl40, zn40_, zl60, zn60_, zl76, zn76_, zl80, zn80_, zl288, zn288_, zl300, zn300_, zneg, Nat.reduceEqDiff, Nat.reduceAdd, ↓reduceIte]
  refine k_206_85_i214_226 ?_
  cases fr
  · simp (disch := omega) only [zup_eq, zput_app, zput_twice, zput_comm, upd_same, nI_1, za2, zA2, zm2, za3, zA3, zm3, za4, zA4, zm4, za9, zA9, zm9, za10, zA10, zm10, za18, zA18, zm18, za27, zA27, zm27, za36, zA36, zm36, za48, zA48, zm48, za288, zA288, zm288, zcl, zinT, upd_ne, upd_eq, zlt, znlt, zl2, zn2_, zl3, zn3_, zl5, zn5_, zl9, zn9_, zl10, zn10_, zl16, zn16_, zl20, zn20_, zl40, zn40_, zl60, zn60_, zl76, zn76_, zl80, zn80_, zl288, zn288_, zl300, zn300_, zneg, Nat.reduceEqDiff, Nat.reduceAdd, ↓reduceIte, hfr, b2i_0, s_max]
    refine k_206_104_i214_226 ?_
    rw [r_clear226 hf]
    simp (disch := omega) only [zup_eq, zput_app, zput_twice, zput_comm, upd_same, nI_1, za2, zA2, zm2, za3, zA3, zm3, za4, zA4, zm4, za9, zA9, zm9, za10, zA10, zm10, za18, zA18, zm18, za27, zA27, zm27, za36, zA36, zm36, za48, zA48, zm48, za288, zA288, zm288, zcl, zinT, upd_ne, upd_eq, zlt, znlt, zl2, zn2_, zl3, zn3_, zl5, zn5_, zl9, zn9_, zl10, zn10_, zl16, zn16_, zl20, zn20_, zl40, zn40_, zl60, zn60_, zl76, zn76_, zl80, zn80_, zl288, zn288_, zl300, zn300_, zneg, Nat.reduceEqDiff, Nat.reduceAdd, ↓reduceIte, (fun s => zput_comm s (show 214 < 226 by decide)), gyt, Bool.false_eq_true, mx0] at h ⊢
    exact h
  · simp (disch := omega) only [zup_eq, zput_app, zput_twice, zput_comm, upd_same, nI_1, za2, zA2, zm2, za3, zA3, zm3, za4, zA4, zm4, za9, zA9, zm9, za10, zA10, zm10, za18, zA18, zm18, za27, zA27, zm27, za36, zA36, zm36, za48, zA48, zm48, za288, zA288, zm288, zcl, zinT, upd_ne, upd_eq, zlt, znlt, zl2, zn2_, zl3, zn3_, zl5, zn5_, zl9, zn9_, zl10, zn10_, zl16, zn16_, zl20, zn20_, zl40, zn40_, zl60, zn60_, zl76, zn76_, zl80, zn80_, zl288, zn288_, zl300, zn300_, zneg, Nat.reduceEqDiff, Nat.reduceAdd, ↓reduceIte, hfr, b2i_0, Bool.true_eq_false]
    refine k_206_104_i214_226 ?_
    rw [r_clear226 hf]
    simp (disch := omega) only [zup_eq, zput_app, zput_twice, zput_comm, upd_same, nI_1, za2, zA2, zm2, za3, zA3, zm3, za4, zA4, zm4, za9, zA9, zm9, za10, zA10, zm10, za18, zA18, zm18, za27, zA27, zm27, za36, zA36, zm36, za48, zA48, zm48, za288, zA288, zm288, zcl, zinT, upd_ne, upd_eq, zlt, znlt, zl2, zn2_, zl3, zn3_, zl5, zn5_, zl9, zn9_, zl10, zn10_, zl16, zn16_, zl20, zn20_, zl40, zn40_, zl60, zn60_, zl76, zn76_, zl80, zn80_, zl288, zn288_, zl300, zn300_, zneg, Nat.reduceEqDiff, Nat.reduceAdd, ↓reduceIte, (fun s => zput_comm s (show 214 < 226 by decide)), gyt] at h ⊢
    exact h
