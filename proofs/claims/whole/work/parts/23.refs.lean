/-! the reference's small methods -/
theorem r_all {d : Nat} {σ : zS} (Q : Int32 → zS → Prop) : ZC (d + 1) 176 [.ref 214] σ Q = Q (zshl 1 (σ 214 1) - 1) σ :=
  s_of (fun Q h => k_176_0 h) Q
theorem r_sight {d : Nat} {σ : zS} {f : Nat} (hf : f < 9) (Q : Int32 → zS → Prop) : ZC (d + 2) 177 [.ref 214, .int (nI f)] σ Q = Q (sg (σ 214 1) (σ 217) f) σ :=
  s_of (fun Q h => k_177_0 (by simp only [zf1 hf, zf2 hf, zf3 hf, zf4 hf, ↓reduceIte, r_all]; exact h)) Q
theorem r_isFace {d : Nat} {σ : zS} (x : Int32) (Q : Int32 → zS → Prop) : ZC (d + 2) 175 [.ref 214, .int x] σ Q = Q (if x < 0 then 0 else if σ 214 1 - 1 < x then 0 else 1) σ := by
  refine s_of (fun Q h => k_175_0 ?_) Q
  rw [s_in]
  by_cases h1 : x < 0
  · simp only [h1, ↓reduceIte] at h ⊢; exact h
  · by_cases h2 : σ 214 1 - 1 < x <;> simp only [h1, h2, ↓reduceIte] at h ⊢ <;> exact h
theorem zpred {F : Nat} (x : Int32) (hF : F ≤ 1000000) : (nI F - 1 < x) = ¬ (x < nI F) := by
  have h1 : ∀ a b : Int32, a < b ↔ a.toInt < b.toInt := fun a b => Int32.lt_iff_toInt_lt
  have e1 : (nI F).toInt = F := nI_toInt (by omega)
  have e2 : (nI F - 1).toInt = (F : Int) - 1 := by
    have : F = 0 ∨ ∃ n, F = n + 1 := by cases F <;> simp
    rcases this with rfl | ⟨n, rfl⟩
    · decide
    · rw [nI_pred, nI_toInt (by omega)]; omega
  rw [h1, h1, e1, e2]
  refine propext ?_
  omega
theorem r_isMore {d : Nat} {σ : zS} (x : Int32) (Q : Int32 → zS → Prop) : ZC (d + 2) 178 [.int x] σ Q = Q (if x < 1 then 0 else if 300 < x then 0 else 1) σ := by
  refine s_of (fun Q h => k_178_0 ?_) Q
  rw [s_in]
  by_cases h1 : x < 1
  · simp only [h1, ↓reduceIte] at h ⊢; exact h
  · by_cases h2 : 300 < x <;> simp only [h1, h2, ↓reduceIte] at h ⊢ <;> exact h
theorem r_seenBy {d : Nat} {σ : zS} {F : Nat} (hF : σ 214 1 = nI F) (h9 : F ≤ 9) (x : Int32) (Q : Int32 → zS → Prop) : ZC (d + 3) 203 [.ref 214, .int x] σ Q = Q (so (nI F) (σ 217) x F) σ := by
  refine s_of (fun Q h => k_203_0 ?_) Q
  refine z_for (F := F) (P := fun k => Z (d + 2) 203 Q 4 [.ref 214, .int x, .int (so (nI F) (σ 217) x k), .int (nI k)] [] σ) (fun k hk ih => ?_) ?_
  · refine k_203_4 ?_
    simp only [hF, zlt hk (by omega), s_hasR x (f := k) (by omega), r_sight (f := k) (by omega), b2i_0, b2i_1, b2i_and, ↓reduceIte, nI_1, za2, zA2, zm2, za3, zA3, zm3, za4, zA4, zm4, za9, zA9, zm9, za10, zA10, zm10, za18, zA18, zm18, za27, zA27, zm27, za36, zA36, zm36, za48, zA48, zm48, za288, zA288, zm288, i_or0]
    unfold so at ih
    cases hb : zb x k <;> simp only [hb, ↓reduceIte, Bool.false_eq_true, reduceCtorEq] at ih ⊢ <;> exact ih
  · refine k_203_4 ?_
    simp only [hF, znlt (Nat.le_refl F) (by omega), ↓reduceIte]
    exact h
theorem r_falseOnes {d : Nat} {σ : zS} {F : Nat} (hF : σ 214 1 = nI F) (h9 : F ≤ 9) (Q : Int32 → zS → Prop) : ZC (d + 4) 216 [.ref 214] σ Q = Q (((σ 214 26) &&& (σ 214 28)) &&& so (nI F) (σ 217) (σ 214 4) F) σ :=
  s_of (fun Q h => k_216_0 (by rw [r_seenBy hF h9]; exact h)) Q
theorem r_more {d : Nat} {σ : zS} (x y : Int32) (Q : Int32 → zS → Prop) : ZC (d + 2) 246 [.int x, .int y] σ Q = Q (if 0 < (if x + y < 9 then x + y else 9) then (if x + y < 9 then x + y else 9) else 0) σ :=
  s_of (fun Q h => k_246_0 (by rw [s_min, s_max]; exact h)) Q
theorem r_late {d : Nat} {σ : zS} (x : Int32) (Q : Int32 → zS → Prop) : ZC (d + 1) 249 [.int x] σ Q = Q (if x = -1 then 1000000 else x) σ :=
  s_of (fun Q h => k_249_0 (by split <;> simp_all)) Q
theorem r_tell {d : Nat} {σ : zS} {n : Nat} (hn : σ 214 11 = nI n) (h : n < 16) (x : Int32) (Q : Int32 → zS → Prop) : ZC (d + 1) 174 [.ref 214, .int x] σ Q = Q 0 (zput (zput σ 214 (upd (σ 214) 11 (nI (n + 1)))) 220 (upd (σ 220) n x)) := by
  refine s_of (fun Q h => k_174_0 ?_) Q
  have e : zin (nI n) 16 = true := zin_nI (by omega) (by decide)
  simp only [hn, e, zcl (k := n) (by omega), zup_eq, zput_app, upd_app, Nat.reduceEqDiff, ↓reduceIte, nI_1, za2, zA2, zm2, za3, zA3, zm3, za4, zA4, zm4, za9, zA9, zm9, za10, zA10, zm10, za18, zA18, zm18, za27, zA27, zm27, za36, zA36, zm36, za48, zA48, zm48, za288, zA288, zm288, zput_comm, zput_twice, Nat.reduceLT]
  exact h
theorem r_clear215 {d : Nat} {σ : zS} {f : Nat} (hf : f < 9) (Q : Int32 → zS → Prop) : ZC (d + 1) 190 [.ref 215, .int (nI f)] σ Q = Q 0 (zput σ 215 (upd (upd (upd (σ 215) (18 + f) (-1)) (27 + f) (-1)) (36 + f) 0)) := by
  refine s_of (fun Q h => k_190_0_i215 ?_) Q
  simp only [nI_1, za2, zA2, zm2, za3, zA3, zm3, za4, zA4, zm4, za9, zA9, zm9, za10, zA10, zm10, za18, zA18, zm18, za27, zA27, zm27, za36, zA36, zm36, za48, zA48, zm48, za288, zA288, zm288, zr (n := f) (by omega), zcl (k := f) (by omega), zr (n := 9 + f) (by omega), zcl (k := 9 + f) (by omega), zr (n := 18 + f) (by omega), zcl (k := 18 + f) (by omega), zr (n := 27 + f) (by omega), zcl (k := 27 + f) (by omega), zr (n := 36 + f) (by omega), zcl (k := 36 + f) (by omega), zup_eq, zput_app, upd_app, Nat.reduceEqDiff, ↓reduceIte, zput_twice]
  exact h
theorem r_begins215 {d : Nat} {σ : zS} {f : Nat} (hf : f < 9) (x : Int32) (Q : Int32 → zS → Prop) : ZC (d + 1) 211 [.ref 215, .int (nI f), .int x] σ Q = Q 0 (zput σ 215 (upd (upd (upd (σ 215) (18 + f) (σ 215 46)) (27 + f) (-1)) (36 + f) x)) := by
  refine s_of (fun Q h => k_211_0_i215 ?_) Q
  simp only [nI_1, za2, zA2, zm2, za3, zA3, zm3, za4, zA4, zm4, za9, zA9, zm9, za10, zA10, zm10, za18, zA18, zm18, za27, zA27, zm27, za36, zA36, zm36, za48, zA48, zm48, za288, zA288, zm288, zr (n := f) (by omega), zcl (k := f) (by omega), zr (n := 9 + f) (by omega), zcl (k := 9 + f) (by omega), zr (n := 18 + f) (by omega), zcl (k := 18 + f) (by omega), zr (n := 27 + f) (by omega), zcl (k := 27 + f) (by omega), zr (n := 36 + f) (by omega), zcl (k := 36 + f) (by omega), zup_eq, zput_app, upd_app, Nat.reduceEqDiff, ↓reduceIte, zput_twice]
  exact h
theorem r_clear226 {d : Nat} {σ : zS} {f : Nat} (hf : f < 9) (Q : Int32 → zS → Prop) : ZC (d + 1) 190 [.ref 226, .int (nI f)] σ Q = Q 0 (zput σ 226 (upd (upd (upd (σ 226) (18 + f) (-1)) (27 + f) (-1)) (36 + f) 0)) := by
  refine s_of (fun Q h => k_190_0_i226 ?_) Q
  simp only [nI_1, za2, zA2, zm2, za3, zA3, zm3, za4, zA4, zm4, za9, zA9, zm9, za10, zA10, zm10, za18, zA18, zm18, za27, zA27, zm27, za36, zA36, zm36, za48, zA48, zm48, za288, zA288, zm288, zr (n := f) (by omega), zcl (k := f) (by omega), zr (n := 9 + f) (by omega), zcl (k := 9 + f) (by omega), zr (n := 18 + f) (by omega), zcl (k := 18 + f) (by omega), zr (n := 27 + f) (by omega), zcl (k := 27 + f) (by omega), zr (n := 36 + f) (by omega), zcl (k := 36 + f) (by omega), zup_eq, zput_app, upd_app, Nat.reduceEqDiff, ↓reduceIte, zput_twice]
  exact h
theorem r_begins226 {d : Nat} {σ : zS} {f : Nat} (hf : f < 9) (x : Int32) (Q : Int32 → zS → Prop) : ZC (d + 1) 211 [.ref 226, .int (nI f), .int x] σ Q = Q 0 (zput σ 226 (upd (upd (upd (σ 226) (18 + f) (σ 226 46)) (27 + f) (-1)) (36 + f) x)) := by
  refine s_of (fun Q h => k_211_0_i226 ?_) Q
  simp only [nI_1, za2, zA2, zm2, za3, zA3, zm3, za4, zA4, zm4, za9, zA9, zm9, za10, zA10, zm10, za18, zA18, zm18, za27, zA27, zm27, za36, zA36, zm36, za48, zA48, zm48, za288, zA288, zm288, zr (n := f) (by omega), zcl (k := f) (by omega), zr (n := 9 + f) (by omega), zcl (k := 9 + f) (by omega), zr (n := 18 + f) (by omega), zcl (k := 18 + f) (by omega), zr (n := 27 + f) (by omega), zcl (k := 27 + f) (by omega), zr (n := 36 + f) (by omega), zcl (k := 36 + f) (by omega), zup_eq, zput_app, upd_app, Nat.reduceEqDiff, ↓reduceIte, zput_twice]
  exact h
