/-! the class reads a text -/
/-- a sign, and what it is as a number: itself, or 999 -/
def chR (x : Int32) (n : Nat) : Prop := (n < 128 ∧ x = nI n) ∨ (n = 999 ∧ ∀ c, c < 128 → x ≠ nI c)
theorem chR_eq {x : Int32} {n c : Nat} (h : chR x n) (hc : c < 128) : (x = nI c) = (n = c) := by
  rcases h with ⟨h1, rfl⟩ | ⟨rfl, h2⟩
  · exact propext (nI_eq (by omega) (by omega))
  · refine propext ⟨fun q => absurd q (h2 c hc), fun q => by omega⟩
/-- THE TEXT is read at a -/
def TC (C : Nat → Nat) (L a : Nat) (σ : zS) : Prop := σ 1 2 = nI a ∧ σ 1 3 = nI L ∧ L ≤ 80 ∧ (∀ i, i < L → chR (σ 2 i) (C i)) ∧ (∀ i, L ≤ i → C i = 999) ∧ a ≤ L
theorem m1_ne : ∀ c, c < 128 → (-1 : Int32) ≠ nI c := by decide +kernel
theorem TC.to {C : Nat → Nat} {L a b : Nat} {σ : zS} (h : TC C L a σ) (hb : b ≤ L) : TC C L b (zup σ 1 2 (nI b)) := by
  obtain ⟨h1, h2, h3, h4, h5, h6⟩ := h
  refine ⟨by simp (disch := omega) only [zup_eq, zput_app, zput_twice, upd_same, nI_1, za2, zA2, zm2, za3, zA3, zm3, za4, zA4, zm4, za9, zA9, zm9, za10, zA10, zm10, za18, zA18, zm18, za27, zA27, zm27, za36, zA36, zm36, za48, zA48, zm48, za288, zA288, zm288, zcl, zinT, upd_ne, upd_eq, zlt, znlt, zl2, zn2_, zl3, zn3_, zl5, zn5_, zl9, zn9_, zl10, zn10_, zl16, zn16_, zl20, zn20_, zl40, zn40_, zl60, zn60_, zl76, zn76_, zl80, zn80_, zl288, zn288_, zl300, zn300_, zneg, Nat.reduceEqDiff, Nat.reduceAdd, ↓reduceIte], by simp (disch := omega) only [zup_eq, zput_app, zput_twice, upd_same, nI_1, za2, zA2, zm2, za3, zA3, zm3, za4, zA4, zm4, za9, zA9, zm9, za10, zA10, zm10, za18, zA18, zm18, za27, zA27, zm27, za36, zA36, zm36, za48, zA48, zm48, za288, zA288, zm288, zcl, zinT, upd_ne, upd_eq, zlt, znlt, zl2, zn2_, zl3, zn3_, zl5, zn5_, zl9, zn9_, zl10, zn10_, zl16, zn16_, zl20, zn20_, zl40, zn40_, zl60, zn60_, zl76, zn76_, zl80, zn80_, zl288, zn288_, zl300, zn300_, zneg, Nat.reduceEqDiff, Nat.reduceAdd, ↓reduceIte]; exact h2, h3, fun i hi => ?_, h5, hb⟩
  simp (disch := omega) only [zup_eq, zput_app, zput_twice, upd_same, nI_1, za2, zA2, zm2, za3, zA3, zm3, za4, zA4, zm4, za9, zA9, zm9, za10, zA10, zm10, za18, zA18, zm18, za27, zA27, zm27, za36, zA36, zm36, za48, zA48, zm48, za288, zA288, zm288, zcl, zinT, upd_ne, upd_eq, zlt, znlt, zl2, zn2_, zl3, zn3_, zl5, zn5_, zl9, zn9_, zl10, zn10_, zl16, zn16_, zl20, zn20_, zl40, zn40_, zl60, zn60_, zl76, zn76_, zl80, zn80_, zl288, zn288_, zl300, zn300_, zneg, Nat.reduceEqDiff, Nat.reduceAdd, ↓reduceIte]
  exact h4 i hi
theorem TC.fr {C : Nat → Nat} {L a b : Nat} {σ σ' : zS} (h : TC C L a σ) (hf : ∀ i, σ' 2 i = σ 2 i) (h3 : σ' 1 3 = σ 1 3) (h2 : σ' 1 2 = nI b) (hb : b ≤ L) : TC C L b σ' := by
  obtain ⟨g1, g2, g3, g4, g5, g6⟩ := h
  exact ⟨h2, h3.trans g2, g3, fun i hi => by rw [hf]; exact g4 i hi, g5, hb⟩
theorem c_peek {C : Nat → Nat} {L a : Nat} {σ : zS} (h : TC C L a σ) {d : Nat} {Q : Int32 → zS → Prop} (hq : ∀ x, chR x (C a) → Q x σ) : ZC (d + 1) 64 [.ref 1] σ Q := by
  obtain ⟨h1, h2, h3, h4, h5, h6⟩ := h
  refine k_64_0 ?_
  have e80 : (Int32.ofNat 80) = nI 80 := rfl
  simp (disch := omega) only [h1, h2, zup_eq, zput_app, zput_twice, upd_same, nI_1, za2, zA2, zm2, za3, zA3, zm3, za4, zA4, zm4, za9, zA9, zm9, za10, zA10, zm10, za18, zA18, zm18, za27, zA27, zm27, za36, zA36, zm36, za48, zA48, zm48, za288, zA288, zm288, zcl, zinT, upd_ne, upd_eq, zlt, znlt, zl2, zn2_, zl3, zn3_, zl5, zn5_, zl9, zn9_, zl10, zn10_, zl16, zn16_, zl20, zn20_, zl40, zn40_, zl60, zn60_, zl76, zn76_, zl80, zn80_, zl288, zn288_, zl300, zn300_, zneg, Nat.reduceEqDiff, Nat.reduceAdd, ↓reduceIte, e80]
  by_cases hL : a < L
  · simp (disch := omega) only [zup_eq, zput_app, zput_twice, upd_same, nI_1, za2, zA2, zm2, za3, zA3, zm3, za4, zA4, zm4, za9, zA9, zm9, za10, zA10, zm10, za18, zA18, zm18, za27, zA27, zm27, za36, zA36, zm36, za48, zA48, zm48, za288, zA288, zm288, zcl, zinT, upd_ne, upd_eq, zlt, znlt, zl2, zn2_, zl3, zn3_, zl5, zn5_, zl9, zn9_, zl10, zn10_, zl16, zn16_, zl20, zn20_, zl40, zn40_, zl60, zn60_, zl76, zn76_, zl80, zn80_, zl288, zn288_, zl300, zn300_, zneg, Nat.reduceEqDiff, Nat.reduceAdd, ↓reduceIte]
    exact hq _ (h4 a hL)
  · simp (disch := omega) only [zup_eq, zput_app, zput_twice, upd_same, nI_1, za2, zA2, zm2, za3, zA3, zm3, za4, zA4, zm4, za9, zA9, zm9, za10, zA10, zm10, za18, zA18, zm18, za27, zA27, zm27, za36, zA36, zm36, za48, zA48, zm48, za288, zA288, zm288, zcl, zinT, upd_ne, upd_eq, zlt, znlt, zl2, zn2_, zl3, zn3_, zl5, zn5_, zl9, zn9_, zl10, zn10_, zl16, zn16_, zl20, zn20_, zl40, zn40_, zl60, zn60_, zl76, zn76_, zl80, zn80_, zl288, zn288_, zl300, zn300_, zneg, Nat.reduceEqDiff, Nat.reduceAdd, ↓reduceIte]
    exact hq _ (Or.inr ⟨h5 a (by omega), fun c hc => m1_ne c hc⟩)
theorem c_step {C : Nat → Nat} {L a : Nat} {σ : zS} (h : TC C L a σ) {d : Nat} (Q : Int32 → zS → Prop) : ZC (d + 1) 65 [.ref 1] σ Q = Q 0 (zup σ 1 2 (nI (a + 1))) :=
  s_of (fun Q hq => k_65_0 (by rw [h.1, nI_1]; exact hq)) Q
theorem c_pick {C : Nat → Nat} {L a : Nat} {σ : zS} (h : TC C L a σ) {c : Nat} (hc : c < 128) {d : Nat} {Q : Int32 → zS → Prop} (h1 : C a = c → Q 1 (zup σ 1 2 (nI (a + 1)))) (h0 : C a ≠ c → Q 0 σ) : ZC (d + 2) 66 [.ref 1, .int (nI c)] σ Q := by
  refine k_66_0 ?_
  refine c_peek h (fun x hx => ?_)
  simp only [chR_eq hx hc, h.1, nI_1]
  split
  · rename_i q; exact h1 q
  · rename_i q; exact h0 q
theorem subL {n k : Nat} (h : k ≤ n) : nI n - nI k = nI (n - k) := pk_sub h
/-- out of the plain signs: neither a digit nor a letter -/
theorem out_rng : ∀ n, n < 128 → ∀ z, z = 48 ∨ z = 97 → ∀ lo, lo ≤ 9 → ∀ hi, hi = 8 ∨ hi = 9 → (z + lo ≤ n ∧ n ≤ z + hi → ¬ (nI n - nI z < nI lo) ∧ ¬ (nI hi < nI n - nI z)) ∧ (¬ (z + lo ≤ n ∧ n ≤ z + hi) → (nI n - nI z < nI lo) ∨ (nI hi < nI n - nI z)) := by
  intro n hn z hz lo hlo hi hhi
  have e1 : ∀ a b : Int32, a < b ↔ a.toInt < b.toInt := fun a b => Int32.lt_iff_toInt_lt
  have e2 : (nI n - nI z).toInt = (n : Int) - z := pk_sub_toInt (by omega) (by omega)
  have e3 : (nI lo).toInt = lo := nI_toInt (by omega)
  have e4 : (nI hi).toInt = hi := nI_toInt (by omega)
  rw [e1, e1, e2, e3, e4]
  omega
theorem rng_x (x : Int32) (z lo hi : Nat) (hz : z < 100) (hlo : lo < 100) (hh : z + hi < 128) : (¬ (x - nI z < nI lo) ∧ ¬ (nI hi < x - nI z)) → ∃ n, n < 128 ∧ x = nI n ∧ z + lo ≤ n ∧ n ≤ z + hi := by
  rintro ⟨h1, h2⟩
  have e1 : ∀ a b : Int32, a < b ↔ a.toInt < b.toInt := fun a b => Int32.lt_iff_toInt_lt
  have e3 : (nI lo).toInt = lo := nI_toInt (by omega)
  have e4 : (nI hi).toInt = hi := nI_toInt (by omega)
  rw [e1, e3] at h1
  rw [e1, e4] at h2
  generalize hy : x - nI z = y at h1 h2
  have e5 : x = y + nI z := by rw [← hy, Int32.sub_add_cancel]
  obtain ⟨j, hj, e6⟩ := nI_of (x := y) (by rw [e1, show (0 : Int32).toInt = 0 from by decide]; omega)
  have e7 : y.toInt = j := by rw [e6]; exact nI_toInt hj
  refine ⟨j + z, by omega, ?_, by omega, by omega⟩
  rw [e5, e6, nI_add]
theorem c_valueFrom {C : Nat → Nat} {L a : Nat} {σ : zS} (h : TC C L a σ) {z lo hi : Nat} (hz : z = 48 ∨ z = 97) (hlo : lo ≤ 9) (hhi : hi = 8 ∨ hi = 9) {d : Nat} {Q : Int32 → zS → Prop} (h1 : z + lo ≤ C a ∧ C a ≤ z + hi → Q (nI (C a - z)) (zup σ 1 2 (nI (a + 1)))) (h0 : ¬ (z + lo ≤ C a ∧ C a ≤ z + hi) → Q (-1) σ) : ZC (d + 2) 69 [.ref 1, .int (nI z), .int (nI lo), .int (nI hi)] σ Q := by
  refine k_69_0 ?_
  refine c_peek h (fun x hx => ?_)
  simp only [h.1, nI_1]
  by_cases hr : z + lo ≤ C a ∧ C a ≤ z + hi
  · rcases hx with ⟨g1, g2⟩ | ⟨g1, g2⟩
    · obtain ⟨k1, k2⟩ := (out_rng (C a) g1 z hz lo hlo hi hhi).1 hr
      rw [g2, if_neg k1, if_neg k2, subL (by omega)]
      exact h1 hr
    · omega
  · by_cases k1 : x - nI z < nI lo
    · rw [if_pos k1]; exact h0 hr
    · rw [if_neg k1]
      by_cases k2 : nI hi < x - nI z
      · rw [if_pos k2]; exact h0 hr
      · exfalso
        obtain ⟨n, hn, e1, e2, e3⟩ := rng_x x z lo hi (by omega) (by omega) (by omega) ⟨k1, k2⟩
        rw [chR_eq hx hn] at e1
        omega
theorem c_digit {C : Nat → Nat} {L a : Nat} {σ : zS} (h : TC C L a σ) {lo : Nat} (hlo : lo ≤ 9) {d : Nat} {Q : Int32 → zS → Prop} (h1 : 48 + lo ≤ C a ∧ C a ≤ 57 → Q (nI (C a - 48)) (zup σ 1 2 (nI (a + 1)))) (h0 : ¬ (48 + lo ≤ C a ∧ C a ≤ 57) → Q (-1) σ) : ZC (d + 3) 67 [.ref 1, .int (nI lo)] σ Q :=
  k_67_0 (c_valueFrom h (z := 48) (hi := 9) (Or.inl rfl) hlo (Or.inr rfl) h1 h0)
theorem c_letter {C : Nat → Nat} {L a : Nat} {σ : zS} (h : TC C L a σ) {lo : Nat} (hlo : lo ≤ 9) {d : Nat} {Q : Int32 → zS → Prop} (h1 : 97 + lo ≤ C a ∧ C a ≤ 105 → Q (nI (C a - 97)) (zup σ 1 2 (nI (a + 1)))) (h0 : ¬ (97 + lo ≤ C a ∧ C a ≤ 105) → Q (-1) σ) : ZC (d + 3) 68 [.ref 1, .int (nI lo)] σ Q :=
  k_68_0 (c_valueFrom h (z := 97) (hi := 8) (Or.inr rfl) hlo (Or.inl rfl) h1 h0)
