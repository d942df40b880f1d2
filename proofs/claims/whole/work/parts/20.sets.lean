/-! sets of faces -/
def zb (x : Int32) (f : Nat) : Bool := x.toBitVec.getLsbD f
theorem zb_has {x : Int32} {f : Nat} (hf : f < 32) : (zshr x (nI f) &&& 1 = 0) ↔ zb x f = false := by
  have h1 : (zshr x (nI f) &&& 1) = nI (if zb x f then 1 else 0) := by
    apply Int32.toBitVec_inj.mp
    apply BitVec.eq_of_getLsbD_eq
    intro i hi
    have h2 : (zshr x (nI f)).toBitVec = x.toBitVec.sshiftRight f := by
      have h3 := zh_c31 f hf
      show (x >>> (nI f &&& 31)).toBitVec = _
      rw [Int32.toBitVec_shiftRight]
      rw [BitVec.sshiftRight_eq']
      rw [h3]
    rw [Int32.toBitVec_and, h2, BitVec.getLsbD_and]
    by_cases hi0 : i = 0
    · subst hi0
      have h5 : (x.toBitVec.sshiftRight f).getLsbD 0 = zb x f := by
        rw [BitVec.getLsbD_sshiftRight]
        simp [hf, zb]
      have h6 : (1 : Int32).toBitVec.getLsbD 0 = true := by decide
      rw [h5, h6, Bool.and_true]
      cases zb x f <;> decide
    · have h4 : (1 : Int32).toBitVec.getLsbD i = false := by
        have : ∀ i, i < 32 → i ≠ 0 → (1 : Int32).toBitVec.getLsbD i = false := by decide
        exact this i hi hi0
      have h7 : (0 : Int32).toBitVec.getLsbD i = false := by simp
      rw [h4, Bool.and_false]
      cases zb x f
      · exact h7.symm
      · exact h4.symm
  rw [h1]
  cases zb x f <;> decide
theorem zb_or (x y : Int32) (f : Nat) : zb (x ||| y) f = (zb x f || zb y f) := by
  simp [zb, Int32.toBitVec_or]
theorem zb_and (x y : Int32) (f : Nat) : zb (x &&& y) f = (zb x f && zb y f) := by
  simp [zb, Int32.toBitVec_and]
theorem zb_xor (x y : Int32) (f : Nat) : zb (x ^^^ y) f = (zb x f ^^ zb y f) := by
  simp [zb, Int32.toBitVec_xor]
theorem zb_m1 : ∀ f, f < 32 → zb (-1) f = true := by decide
theorem zb_0 (f : Nat) : zb 0 f = false := by simp [zb]
theorem zb_one : ∀ g, g < 32 → ∀ f, f < 32 → zb (zshl 1 (nI g)) f = decide (f = g) := by decide +kernel
theorem zb_not {x : Int32} {f : Nat} (hf : f < 32) : zb (x ^^^ (-1)) f = !zb x f := by
  rw [zb_xor, zb_m1 f hf]
  cases zb x f <;> rfl
theorem zb_ext {x y : Int32} (h : ∀ f, f < 32 → zb x f = zb y f) : x = y := by
  apply Int32.toBitVec_inj.mp
  apply BitVec.eq_of_getLsbD_eq
  intro i hi
  exact h i hi
theorem zb_big {x : Int32} {f : Nat} (h : 32 ≤ f) : zb x f = false := by
  simp only [zb]
  exact BitVec.getLsbD_of_ge _ _ h
def bs (p : Nat → Bool) : Nat → Int32
  | 0 => 0
  | n + 1 => if p n then bs p n ||| zshl 1 (nI n) else bs p n
theorem zb_bs {p : Nat → Bool} {n : Nat} (hn : n ≤ 32) {f : Nat} (hf : f < 32) : zb (bs p n) f = (decide (f < n) && p f) := by
  induction n with
  | zero => simp [bs, zb_0]
  | succ n ih =>
    unfold bs
    have ih := ih (by omega)
    by_cases hp : p n = true
    · rw [if_pos hp, zb_or, ih, zb_one n (by omega) f hf]
      by_cases he : f = n
      · subst he; simp [hp]
      · have hq : (f < n + 1) ↔ (f < n) := by omega
        simp [he, hq]
    · rw [if_neg hp, ih]
      by_cases he : f = n
      · subst he; simp [hp]
      · have hq : (f < n + 1) ↔ (f < n) := by omega
        simp [hq]
theorem bs_congr {p q : Nat → Bool} {n : Nat} (h : ∀ f, f < n → p f = q f) : bs p n = bs q n := by
  induction n with
  | zero => rfl
  | succ n ih =>
    unfold bs
    rw [ih (fun f hf => h f (by omega)), h n (by omega)]
