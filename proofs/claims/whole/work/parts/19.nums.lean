/-! numbers and bits -/
theorem zh_shl : ∀ f, f < 32 → zshl 1 (nI f) = nI (2 ^ f) := by decide +kernel
theorem zh_c31 : ∀ f, f < 32 → ((nI f &&& 31).toBitVec.smod 32).toNat = f := by decide +kernel
theorem zh_shr {k f : Nat} (hk : k < 2 ^ 31) (hf : f < 32) : zshr (nI k) (nI f) = nI (k / 2 ^ f) := pk_shrN hk _ f (zh_c31 f hf)
theorem zh_and1 {n : Nat} (h : n < 2 ^ 32) : nI n &&& 1 = nI (n % 2) := pk_andN h 1 (by decide)
theorem zh_bit {k f : Nat} (hk : k < 2 ^ 31) (hf : f < 32) : zshr (nI k) (nI f) &&& 1 = nI (if k.testBit f then 1 else 0) := by
  rw [zh_shr hk hf, zh_and1 (Nat.lt_of_le_of_lt (Nat.div_le_self _ _) (by omega))]
  congr 1
  rw [Nat.testBit_eq_decide_div_mod_eq]
  by_cases h : k / 2 ^ f % 2 = 1
  · simp [h]
  · have : k / 2 ^ f % 2 = 0 := by omega
    simp [this]
theorem zh_bit0 {k f : Nat} (hk : k < 2 ^ 31) (hf : f < 32) : (zshr (nI k) (nI f) &&& 1 = 0) ↔ k.testBit f = false := by
  rw [zh_bit hk hf]
  cases k.testBit f <;> decide
theorem zh_or (a b : Nat) : nI a ||| nI b = nI (a ||| b) := by
  apply Int32.toBitVec_inj.mp
  simp only [Int32.toBitVec_or, nI]
  show BitVec.ofNat 32 a ||| BitVec.ofNat 32 b = BitVec.ofNat 32 (a ||| b)
  apply BitVec.eq_of_getLsbD_eq
  intro i hi
  simp [BitVec.getLsbD_ofNat, hi]
theorem zh_and (a b : Nat) : nI a &&& nI b = nI (a &&& b) := by
  apply Int32.toBitVec_inj.mp
  simp only [Int32.toBitVec_and, nI]
  show BitVec.ofNat 32 a &&& BitVec.ofNat 32 b = BitVec.ofNat 32 (a &&& b)
  apply BitVec.eq_of_getLsbD_eq
  intro i hi
  simp [BitVec.getLsbD_ofNat, hi]
theorem zh_xor (a b : Nat) : nI a ^^^ nI b = nI (a ^^^ b) := by
  apply Int32.toBitVec_inj.mp
  simp only [Int32.toBitVec_xor, nI]
  show BitVec.ofNat 32 a ^^^ BitVec.ofNat 32 b = BitVec.ofNat 32 (a ^^^ b)
  apply BitVec.eq_of_getLsbD_eq
  intro i hi
  simp [BitVec.getLsbD_ofNat, hi]
/-- an int without some bits -/
theorem zh_andn {a : Nat} (ha : a < 512) (b : Nat) : nI a &&& (nI b ^^^ (-1)) = nI (a &&& (b ^^^ 511)) := by
  have h1 : (-1 : Int32) = nI 4294967295 := by decide
  rw [h1, zh_xor, zh_and]
  congr 1
  apply Nat.eq_of_testBit_eq
  intro i
  simp only [Nat.testBit_and, Nat.testBit_xor]
  by_cases hi : i < 9
  · have h2 : Nat.testBit 4294967295 i = Nat.testBit 511 i := by
      have : ∀ i, i < 9 → Nat.testBit 4294967295 i = Nat.testBit 511 i := by decide
      exact this i hi
    rw [h2]
  · have h2 : a.testBit i = false := Nat.testBit_lt_two_pow (Nat.lt_of_lt_of_le ha (by
      have : 2 ^ 9 ≤ 2 ^ i := Nat.pow_le_pow_right (by decide) (by omega)
      omega))
    rw [h2]
    rfl
theorem zin_nI {j n : Nat} (h : j < n) (hn : n < 2 ^ 31) : zin (nI j) n = true := by
  unfold zin
  rw [nI_clamp (by omega)]
  simp [nI_pos (n := j) (by omega), h]
