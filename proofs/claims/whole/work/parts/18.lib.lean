/-! what the small helpers answer -/
theorem s_of {d mi : Nat} {as : List Value} {σ : zS} {v : Int32} {σ' : zS} (h : ∀ Q : Int32 → zS → Prop, Q v σ' → Z d mi Q 0 (zloc mi as) [] σ) (Q : Int32 → zS → Prop) : ZC (d + 1) mi as σ Q = Q v σ' := ZC_det (d := d + 1) (h _ ⟨rfl, rfl⟩) Q
theorem s_max {d : Nat} (x y : Int32) (σ : zS) (Q : Int32 → zS → Prop) : ZC (d + 1) 3 [.int x, .int y] σ Q = Q (if x < y then y else x) σ :=
  s_of (fun Q h => k_3_0 (by split <;> simp_all)) Q
theorem s_min {d : Nat} (x y : Int32) (σ : zS) (Q : Int32 → zS → Prop) : ZC (d + 1) 4 [.int x, .int y] σ Q = Q (if y < x then y else x) σ :=
  s_of (fun Q h => k_4_0 (by split <;> simp_all)) Q
theorem s_abs {d : Nat} (x : Int32) (σ : zS) (Q : Int32 → zS → Prop) : ZC (d + 1) 2 [.int x] σ Q = Q (if x < 0 then -x else x) σ :=
  s_of (fun Q h => k_2_0 (by split <;> simp_all)) Q
theorem s_bit {d : Nat} (x : Int32) (σ : zS) (Q : Int32 → zS → Prop) : ZC (d + 1) 131 [.int x] σ Q = Q (zshl 1 x) σ :=
  s_of (fun Q h => k_131_0 h) Q
theorem s_has {d : Nat} (x y : Int32) (σ : zS) (Q : Int32 → zS → Prop) : ZC (d + 1) 132 [.int x, .int y] σ Q = Q (if zshr x y &&& 1 = 0 then 0 else 1) σ :=
  s_of (fun Q h => k_132_0 (by split <;> simp_all)) Q
theorem s_isIn {d : Nat} (v a b : Int32) (σ : zS) (Q : Int32 → zS → Prop) : ZC (d + 1) 133 [.int v, .int a, .int b] σ Q = Q (if v < a then 0 else if b < v then 0 else 1) σ :=
  s_of (fun Q h => k_133_0 (by repeat' split <;> simp_all)) Q
