/-! the wall's small methods -/
/-- whom a face sees, of those that are there: e faces, rows S -/
def sg (e : Int32) (S : Nat → Int32) (f : Nat) : Int32 := ((S f) &&& ((zshl 1 e) - 1)) &&& ((zshl 1 (nI f)) ^^^ (-1))
/-- whom a set sees, of the first faces -/
def so (e : Int32) (S : Nat → Int32) (those : Int32) : Nat → Int32
  | 0 => 0
  | n + 1 => if zb those n then so e S those n ||| sg e S n else so e S those n
theorem i_or0 (x : Int32) : x ||| 0 = x := Int32.or_zero
theorem c_everybody14 {d : Nat} {σ : zS} (Q : Int32 → zS → Prop) : ZC (d + 2) 72 [.ref 14] σ Q = Q (zshl 1 (σ 14 3) - 1) σ :=
  s_of (fun Q h => k_72_0_i14 (by rw [s_bit]; exact h)) Q
theorem c_present14 {d : Nat} {σ : zS} (Q : Int32 → zS → Prop) : ZC (d + 3) 73 [.ref 14] σ Q = Q ((zshl 1 (σ 14 3) - 1) &&& (σ 17 5 ^^^ (-1))) σ :=
  s_of (fun Q h => k_73_0_i14 (by rw [c_everybody14]; exact h)) Q
theorem c_sight14 {d : Nat} {σ : zS} {f : Nat} (hf : f < 9) (Q : Int32 → zS → Prop) : ZC (d + 3) 74 [.ref 14, .int (nI f)] σ Q = Q (sg (σ 14 3) (σ 16) f) σ :=
  s_of (fun Q h => k_74_0_i14 (by simp only [zf1 hf, zf2 hf, zf3 hf, zf4 hf, ↓reduceIte, c_everybody14, s_bit]; exact h)) Q
theorem c_sightOf14 {d : Nat} {σ : zS} {F : Nat} (hF : σ 14 3 = nI F) (h9 : F ≤ 9) (x : Int32) (Q : Int32 → zS → Prop) : ZC (d + 4) 75 [.ref 14, .int x] σ Q = Q (so (nI F) (σ 16) x F) σ := by
  refine s_of (fun Q h => k_75_0_i14 ?_) Q
  refine z_for (F := F) (P := fun k => Z (d + 3) 75 Q 4 [.ref 14, .int x, .int (so (nI F) (σ 16) x k), .int (nI k)] [] σ) (fun k hk ih => ?_) ?_
  · refine k_75_4_i14 ?_
    simp only [hF, zlt hk (by omega), s_hasN x (f := k) (by omega), c_sight14 (f := k) (by omega), b2i_0, b2i_1, b2i_and, ↓reduceIte, nI_1, za2, zA2, zm2, za3, zA3, zm3, za4, zA4, zm4, za9, zA9, zm9, za10, zA10, zm10, za18, zA18, zm18, za27, zA27, zm27, za36, zA36, zm36, za48, zA48, zm48, za288, zA288, zm288, i_or0]
    unfold so at ih
    cases hb : zb x k <;> simp only [hb, ↓reduceIte, Bool.false_eq_true, reduceCtorEq] at ih ⊢ <;> exact ih
  · refine k_75_4_i14 ?_
    simp only [hF, znlt (Nat.le_refl F) (by omega), ↓reduceIte]
    exact h
theorem c_everybody23 {d : Nat} {σ : zS} (Q : Int32 → zS → Prop) : ZC (d + 2) 72 [.ref 23] σ Q = Q (zshl 1 (σ 23 3) - 1) σ :=
  s_of (fun Q h => k_72_0_i23 (by rw [s_bit]; exact h)) Q
theorem c_present23 {d : Nat} {σ : zS} (Q : Int32 → zS → Prop) : ZC (d + 3) 73 [.ref 23] σ Q = Q ((zshl 1 (σ 23 3) - 1) &&& (σ 26 5 ^^^ (-1))) σ :=
  s_of (fun Q h => k_73_0_i23 (by rw [c_everybody23]; exact h)) Q
theorem c_sight23 {d : Nat} {σ : zS} {f : Nat} (hf : f < 9) (Q : Int32 → zS → Prop) : ZC (d + 3) 74 [.ref 23, .int (nI f)] σ Q = Q (sg (σ 23 3) (σ 25) f) σ :=
  s_of (fun Q h => k_74_0_i23 (by simp only [zf1 hf, zf2 hf, zf3 hf, zf4 hf, ↓reduceIte, c_everybody23, s_bit]; exact h)) Q
theorem c_sightOf23 {d : Nat} {σ : zS} {F : Nat} (hF : σ 23 3 = nI F) (h9 : F ≤ 9) (x : Int32) (Q : Int32 → zS → Prop) : ZC (d + 4) 75 [.ref 23, .int x] σ Q = Q (so (nI F) (σ 25) x F) σ := by
  refine s_of (fun Q h => k_75_0_i23 ?_) Q
  refine z_for (F := F) (P := fun k => Z (d + 3) 75 Q 4 [.ref 23, .int x, .int (so (nI F) (σ 25) x k), .int (nI k)] [] σ) (fun k hk ih => ?_) ?_
  · refine k_75_4_i23 ?_
    simp only [hF, zlt hk (by omega), s_hasN x (f := k) (by omega), c_sight23 (f := k) (by omega), b2i_0, b2i_1, b2i_and, ↓reduceIte, nI_1, za2, zA2, zm2, za3, zA3, zm3, za4, zA4, zm4, za9, zA9, zm9, za10, zA10, zm10, za18, zA18, zm18, za27, zA27, zm27, za36, zA36, zm36, za48, zA48, zm48, za288, zA288, zm288, i_or0]
    unfold so at ih
    cases hb : zb x k <;> simp only [hb, ↓reduceIte, Bool.false_eq_true, reduceCtorEq] at ih ⊢ <;> exact ih
  · refine k_75_4_i23 ?_
    simp only [hF, znlt (Nat.le_refl F) (by omega), ↓reduceIte]
    exact h
