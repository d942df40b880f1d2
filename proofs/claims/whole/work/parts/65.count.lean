/-! counts -/
def smT (r : Nat → Int32) : Nat → Int32
  | 0 => 0
  | n + 1 => smT r n + r n
theorem smT_1 (r : Nat → Int32) (n : Nat) : smT r (n + 1) = smT r n + r n := rfl
theorem c_sumOfTired {d : Nat} {σ : zS} {F : Nat} {r : Nat → Int32} (hF : σ 14 3 = nI F) (h9 : F ≤ 9) (hv : ∀ f, f < F → σ 18 f = r f) (Q : Int32 → zS → Prop) : ZC (d + 1) 146 [.ref 0] σ Q = Q (smT r F) σ := by
  refine s_of (fun Q h => k_146_0 ?_) Q
  refine z_for (F := F) (P := fun k => Z d 146 Q 4 [.ref 0, .int (smT r k), .int (nI k)] [] σ) (fun k hk ih => ?_) ?_
  · refine k_146_4 ?_
    simp (disch := omega) only [zup_eq, zput_app, zput_twice, upd_same, nI_1, za2, zA2, zm2, za3, zA3, zm3, za4, zA4, zm4, za9, zA9, zm9, za10, zA10, zm10, za18, zA18, zm18, za27, zA27, zm27, za36, zA36, zm36, za48, zA48, zm48, za288, zA288, zm288, zcl, zinT, upd_ne, upd_eq, zlt, znlt, zl2, zn2_, zl3, zn3_, zl5, zn5_, zl9, zn9_, zl10, zn10_, zl16, zn16_, zl20, zn20_, zl40, zn40_, zl60, zn60_, zl76, zn76_, zl80, zn80_, zl288, zn288_, zl300, zn300_, zneg, Nat.reduceEqDiff, Nat.reduceAdd, ↓reduceIte, hF, hv k hk]
    exact ih
  · refine k_146_4 ?_
    simp (disch := omega) only [zup_eq, zput_app, zput_twice, upd_same, nI_1, za2, zA2, zm2, za3, zA3, zm3, za4, zA4, zm4, za9, zA9, zm9, za10, zA10, zm10, za18, zA18, zm18, za27, zA27, zm27, za36, zA36, zm36, za48, zA48, zm48, za288, zA288, zm288, zcl, zinT, upd_ne, upd_eq, zlt, znlt, zl2, zn2_, zl3, zn3_, zl5, zn5_, zl9, zn9_, zl10, zn10_, zl16, zn16_, zl20, zn20_, zl40, zn40_, zl60, zn60_, zl76, zn76_, zl80, zn80_, zl288, zn288_, zl300, zn300_, zneg, Nat.reduceEqDiff, Nat.reduceAdd, ↓reduceIte, hF]
    exact h
theorem s_mn {d : Nat} (x y : Int32) (σ : zS) (Q : Int32 → zS → Prop) : ZC (d + 1) 4 [.int x, .int y] σ Q = Q (if y < x then y else x) σ :=
  s_of (fun Q h => k_4_0 (by
    by_cases hq : y < x
    · rw [if_pos hq] at h ⊢; exact h
    · rw [if_neg hq] at h ⊢; exact h)) Q
theorem s_mx {d : Nat} (x y : Int32) (σ : zS) (Q : Int32 → zS → Prop) : ZC (d + 1) 3 [.int x, .int y] σ Q = Q (if x < y then y else x) σ :=
  s_of (fun Q h => k_3_0 (by
    by_cases hq : x < y
    · rw [if_pos hq] at h ⊢; exact h
    · rw [if_neg hq] at h ⊢; exact h)) Q
theorem r_bookMany {d y : Nat} {σ : zS} (hy : σ 215 47 = nI y) (h : y < 1073741824) (Q : Int32 → zS → Prop) : ZC (d + 2) 223 [.ref 214] σ Q = Q (nI (if y < 60 then y else 60)) σ := by
  refine s_of (fun Q h => k_223_0 ?_) Q
  rw [s_mn, hy]
  by_cases hq : y < 60
  · rw [if_pos hq] at h
    rw [if_pos (show nI y < (60 : Int32) from nI_lt (b := 60) hq (by decide))]; exact h
  · rw [if_neg hq] at h
    rw [if_neg (show ¬ nI y < (60 : Int32) from nI_nlt (a := y) (b := 60) (by omega) (by omega))]; exact h
theorem call_count {d e b : Nat} {σ : zS} (x : Int32) (h : Inv b σ) : Both (d + 3) 129 [.ref 0, .int x] (e + 3) 272 [.ref 214, .int x] b σ := by
  obtain ⟨c, l, t, ht, hc⟩ := h.ctx
  have h9 := hc.h9
  have hcm := hc.hcm
  have hi := h
  obtain ⟨F, l', W, -, ⟨-, ⟨y, y0, y1, y2, -, -⟩, -⟩, -, -, ⟨kt, -, t1, t2, -⟩, -, ⟨ko, -, o1, o2, -⟩, ⟨kc, -, c1, c2, -⟩, ⟨ks, -, s1, s2, -⟩, ⟨kp, xp, -, -, p1, -, p2, -⟩, -, -⟩ := hi
  by_cases hx0 : x = 0
  · subst hx0
    refine both_q h (σ 14 3) none (fun Q hq => ?_) (fun σ3 f3 Q hq => ?_)
    · refine k_129_0 ?_
      rw [if_pos rfl]
      exact hq σ Fr.rf
    · refine k_272_0 ?_
      rw [if_pos rfl, show σ3 214 1 = σ 14 3 from (f3 214 1 (by decide)).trans (hc.hR.trans hc.h14.symm)]
      exact hq _ fr12
  by_cases hx1 : x = 1
  · subst hx1
    refine both_q h (σ 17 6) none (fun Q hq => ?_) (fun σ3 f3 Q hq => ?_)
    · refine k_129_0 ?_
      rw [if_neg (show ¬ (1 : Int32) = 0 by decide), if_pos rfl]
      exact hq σ Fr.rf
    · refine k_272_0 ?_
      rw [if_neg (show ¬ (1 : Int32) = 0 by decide), if_pos rfl, show σ3 215 46 = σ 17 6 from (congrFun (tC_215 f3) 46).trans hcm.2.2.2.2.symm]
      exact hq _ fr12
  by_cases hx2 : x = 2
  · subst hx2
    refine both_q h (σ 0 13) none (fun Q hq => ?_) (fun σ3 f3 Q hq => ?_)
    · refine k_129_0 ?_
      rw [if_neg (show ¬ (2 : Int32) = 0 by decide), if_neg (show ¬ (2 : Int32) = 1 by decide), if_pos rfl]
      exact hq σ Fr.rf
    · refine k_272_0 ?_
      rw [if_neg (show ¬ (2 : Int32) = 0 by decide), if_neg (show ¬ (2 : Int32) = 1 by decide), if_pos rfl, show σ3 214 4 = σ 0 13 from (f3 214 4 (by decide)).trans hc.hj.symm]
      exact hq _ fr12
  by_cases hx3 : x = 3
  · subst hx3
    refine both_q h (σ 17 5) none (fun Q hq => ?_) (fun σ3 f3 Q hq => ?_)
    · refine k_129_0 ?_
      rw [if_neg (show ¬ (3 : Int32) = 0 by decide), if_neg (show ¬ (3 : Int32) = 1 by decide), if_neg (show ¬ (3 : Int32) = 2 by decide), if_pos rfl]
      exact hq σ Fr.rf
    · refine k_272_0 ?_
      rw [if_neg (show ¬ (3 : Int32) = 0 by decide), if_neg (show ¬ (3 : Int32) = 1 by decide), if_neg (show ¬ (3 : Int32) = 2 by decide), if_pos rfl, show σ3 215 45 = σ 17 5 from (congrFun (tC_215 f3) 45).trans hcm.2.2.2.1.symm]
      exact hq _ fr12
  by_cases hx4 : x = 4
  · subst hx4
    refine both_q h (dueB c.1 (σ 215)) none (fun Q hq => ?_) (fun σ3 f3 Q hq => ?_)
    · refine k_129_0 ?_
      rw [if_neg (show ¬ (4 : Int32) = 0 by decide), if_neg (show ¬ (4 : Int32) = 1 by decide), if_neg (show ¬ (4 : Int32) = 2 by decide), if_neg (show ¬ (4 : Int32) = 3 by decide), if_pos rfl, c_waiting17 hcm h9]
      exact hq σ Fr.rf
    · refine k_272_0 ?_
      rw [if_neg (show ¬ (4 : Int32) = 0 by decide), if_neg (show ¬ (4 : Int32) = 1 by decide), if_neg (show ¬ (4 : Int32) = 2 by decide), if_neg (show ¬ (4 : Int32) = 3 by decide), if_pos rfl]
      have hR : (zup σ3 214 12 0) 214 1 = nI c.1 := (f3 214 1 (by decide)).trans hc.hR
      have h215 : (zup σ3 214 12 0) 215 = σ 215 := (tR_215 fr12.rT).trans (tC_215 f3)
      have hq2 := hq _ fr12
      generalize (zup σ3 214 12 0) = σ4 at hR h215 hq2 ⊢
      refine z_for (F := c.1) (P := fun k => Z (e + 2) 272 Q 100 [.ref 214, .int 4, .int (bs (fun f => !decide (σ 215 (18 + f) = -1)) k), .int (nI k)] [] σ4) (fun k hk ih => ?_) ?_
      · refine k_272_100 ?_
        simp (disch := omega) only [zup_eq, zput_app, zput_twice, upd_same, nI_1, za2, zA2, zm2, za3, zA3, zm3, za4, zA4, zm4, za9, zA9, zm9, za10, zA10, zm10, za18, zA18, zm18, za27, zA27, zm27, za36, zA36, zm36, za48, zA48, zm48, za288, zA288, zm288, zcl, zinT, upd_ne, upd_eq, zlt, znlt, zl2, zn2_, zl3, zn3_, zl5, zn5_, zl9, zn9_, zl10, zn10_, zl16, zn16_, zl20, zn20_, zl40, zn40_, zl60, zn60_, zl76, zn76_, zl80, zn80_, zl288, zn288_, zl300, zn300_, zneg, Nat.reduceEqDiff, Nat.reduceAdd, ↓reduceIte, hR, h215, i_or0]
        rw [bs_1] at ih
        by_cases hp : σ 215 (18 + k) = -1
        · rw [if_pos hp]; rw [decide_eq_true hp] at ih; exact ih
        · rw [if_neg hp]; rw [decide_eq_false hp] at ih; exact ih
      · refine k_272_100 ?_
        simp (disch := omega) only [zup_eq, zput_app, zput_twice, upd_same, nI_1, za2, zA2, zm2, za3, zA3, zm3, za4, zA4, zm4, za9, zA9, zm9, za10, zA10, zm10, za18, zA18, zm18, za27, zA27, zm27, za36, zA36, zm36, za48, zA48, zm48, za288, zA288, zm288, zcl, zinT, upd_ne, upd_eq, zlt, znlt, zl2, zn2_, zl3, zn3_, zl5, zn5_, zl9, zn9_, zl10, zn10_, zl16, zn16_, zl20, zn20_, zl40, zn40_, zl60, zn60_, zl76, zn76_, zl80, zn80_, zl288, zn288_, zl300, zn300_, zneg, Nat.reduceEqDiff, Nat.reduceAdd, ↓reduceIte, hR]
        exact hq2
  by_cases hx5 : x = 5
  · subst hx5
    refine both_q h (σ 32 4) none (fun Q hq => ?_) (fun σ3 f3 Q hq => ?_)
    · refine k_129_0 ?_
      rw [if_neg (show ¬ (5 : Int32) = 0 by decide), if_neg (show ¬ (5 : Int32) = 1 by decide), if_neg (show ¬ (5 : Int32) = 2 by decide), if_neg (show ¬ (5 : Int32) = 3 by decide), if_neg (show ¬ (5 : Int32) = 4 by decide), if_pos rfl]
      exact hq σ Fr.rf
    · refine k_272_0 ?_
      rw [if_neg (show ¬ (5 : Int32) = 0 by decide), if_neg (show ¬ (5 : Int32) = 1 by decide), if_neg (show ¬ (5 : Int32) = 2 by decide), if_neg (show ¬ (5 : Int32) = 3 by decide), if_neg (show ¬ (5 : Int32) = 4 by decide), if_pos rfl, r_bookMany (y := y) (show (zup σ3 214 12 0) 215 47 = nI y from (congrFun (tC_215 f3) 47).trans y1) y0, ← y2]
      exact hq _ fr12
  by_cases hx6 : x = 6
  · subst hx6
    refine both_q h (smT (σ 215) c.1) none (fun Q hq => ?_) (fun σ3 f3 Q hq => ?_)
    · refine k_129_0 ?_
      rw [if_neg (show ¬ (6 : Int32) = 0 by decide), if_neg (show ¬ (6 : Int32) = 1 by decide), if_neg (show ¬ (6 : Int32) = 2 by decide), if_neg (show ¬ (6 : Int32) = 3 by decide), if_neg (show ¬ (6 : Int32) = 4 by decide), if_neg (show ¬ (6 : Int32) = 5 by decide), if_pos rfl, c_sumOfTired hc.h14 h9 (fun f hf => (hcm.1 f hf).1)]
      exact hq σ Fr.rf
    · refine k_272_0 ?_
      rw [if_neg (show ¬ (6 : Int32) = 0 by decide), if_neg (show ¬ (6 : Int32) = 1 by decide), if_neg (show ¬ (6 : Int32) = 2 by decide), if_neg (show ¬ (6 : Int32) = 3 by decide), if_neg (show ¬ (6 : Int32) = 4 by decide), if_neg (show ¬ (6 : Int32) = 5 by decide), if_pos rfl]
      have hR : (zup σ3 214 12 0) 214 1 = nI c.1 := (f3 214 1 (by decide)).trans hc.hR
      have h215 : (zup σ3 214 12 0) 215 = σ 215 := (tR_215 fr12.rT).trans (tC_215 f3)
      have hq2 := hq _ fr12
      generalize (zup σ3 214 12 0) = σ4 at hR h215 hq2 ⊢
      refine z_for (F := c.1) (P := fun k => Z (e + 2) 272 Q 146 [.ref 214, .int 6, .int (smT (σ 215) k), .int (nI k)] [] σ4) (fun k hk ih => ?_) ?_
      · refine k_272_146 ?_
        simp (disch := omega) only [zup_eq, zput_app, zput_twice, upd_same, nI_1, za2, zA2, zm2, za3, zA3, zm3, za4, zA4, zm4, za9, zA9, zm9, za10, zA10, zm10, za18, zA18, zm18, za27, zA27, zm27, za36, zA36, zm36, za48, zA48, zm48, za288, zA288, zm288, zcl, zinT, upd_ne, upd_eq, zlt, znlt, zl2, zn2_, zl3, zn3_, zl5, zn5_, zl9, zn9_, zl10, zn10_, zl16, zn16_, zl20, zn20_, zl40, zn40_, zl60, zn60_, zl76, zn76_, zl80, zn80_, zl288, zn288_, zl300, zn300_, zneg, Nat.reduceEqDiff, Nat.reduceAdd, ↓reduceIte, hR, h215]
        exact ih
      · refine k_272_146 ?_
        simp (disch := omega) only [zup_eq, zput_app, zput_twice, upd_same, nI_1, za2, zA2, zm2, za3, zA3, zm3, za4, zA4, zm4, za9, zA9, zm9, za10, zA10, zm10, za18, zA18, zm18, za27, zA27, zm27, za36, zA36, zm36, za48, zA48, zm48, za288, zA288, zm288, zcl, zinT, upd_ne, upd_eq, zlt, znlt, zl2, zn2_, zl3, zn3_, zl5, zn5_, zl9, zn9_, zl10, zn10_, zl16, zn16_, zl20, zn20_, zl40, zn40_, zl60, zn60_, zl76, zn76_, zl80, zn80_, zl288, zn288_, zl300, zn300_, zneg, Nat.reduceEqDiff, Nat.reduceAdd, ↓reduceIte, hR]
        exact hq2
  by_cases hx7 : x = 7
  · subst hx7
    refine both_q h (σ 183 3) none (fun Q hq => ?_) (fun σ3 f3 Q hq => ?_)
    · refine k_129_0 ?_
      rw [if_neg (show ¬ (7 : Int32) = 0 by decide), if_neg (show ¬ (7 : Int32) = 1 by decide), if_neg (show ¬ (7 : Int32) = 2 by decide), if_neg (show ¬ (7 : Int32) = 3 by decide), if_neg (show ¬ (7 : Int32) = 4 by decide), if_neg (show ¬ (7 : Int32) = 5 by decide), if_neg (show ¬ (7 : Int32) = 6 by decide), if_pos rfl]
      exact hq σ Fr.rf
    · refine k_272_0 ?_
      rw [if_neg (show ¬ (7 : Int32) = 0 by decide), if_neg (show ¬ (7 : Int32) = 1 by decide), if_neg (show ¬ (7 : Int32) = 2 by decide), if_neg (show ¬ (7 : Int32) = 3 by decide), if_neg (show ¬ (7 : Int32) = 4 by decide), if_neg (show ¬ (7 : Int32) = 5 by decide), if_neg (show ¬ (7 : Int32) = 6 by decide), if_pos rfl, show σ3 214 43 = σ 183 3 from (f3 214 43 (by decide)).trans (c2.trans c1.symm)]
      exact hq _ fr12
  by_cases hx8 : x = 8
  · subst hx8
    refine both_q h (σ 37 0) none (fun Q hq => ?_) (fun σ3 f3 Q hq => ?_)
    · refine k_129_0 ?_
      rw [if_neg (show ¬ (8 : Int32) = 0 by decide), if_neg (show ¬ (8 : Int32) = 1 by decide), if_neg (show ¬ (8 : Int32) = 2 by decide), if_neg (show ¬ (8 : Int32) = 3 by decide), if_neg (show ¬ (8 : Int32) = 4 by decide), if_neg (show ¬ (8 : Int32) = 5 by decide), if_neg (show ¬ (8 : Int32) = 6 by decide), if_neg (show ¬ (8 : Int32) = 7 by decide), if_pos rfl]
      exact hq σ Fr.rf
    · refine k_272_0 ?_
      rw [if_neg (show ¬ (8 : Int32) = 0 by decide), if_neg (show ¬ (8 : Int32) = 1 by decide), if_neg (show ¬ (8 : Int32) = 2 by decide), if_neg (show ¬ (8 : Int32) = 3 by decide), if_neg (show ¬ (8 : Int32) = 4 by decide), if_neg (show ¬ (8 : Int32) = 5 by decide), if_neg (show ¬ (8 : Int32) = 6 by decide), if_neg (show ¬ (8 : Int32) = 7 by decide), if_pos rfl, show σ3 214 30 = σ 37 0 from (f3 214 30 (by decide)).trans (p2.trans p1.symm)]
      exact hq _ fr12
  by_cases hx9 : x = 9
  · subst hx9
    refine both_q h (σ 187 0) none (fun Q hq => ?_) (fun σ3 f3 Q hq => ?_)
    · refine k_129_0 ?_
      rw [if_neg (show ¬ (9 : Int32) = 0 by decide), if_neg (show ¬ (9 : Int32) = 1 by decide), if_neg (show ¬ (9 : Int32) = 2 by decide), if_neg (show ¬ (9 : Int32) = 3 by decide), if_neg (show ¬ (9 : Int32) = 4 by decide), if_neg (show ¬ (9 : Int32) = 5 by decide), if_neg (show ¬ (9 : Int32) = 6 by decide), if_neg (show ¬ (9 : Int32) = 7 by decide), if_neg (show ¬ (9 : Int32) = 8 by decide), if_pos rfl]
      exact hq σ Fr.rf
    · refine k_272_0 ?_
      rw [if_neg (show ¬ (9 : Int32) = 0 by decide), if_neg (show ¬ (9 : Int32) = 1 by decide), if_neg (show ¬ (9 : Int32) = 2 by decide), if_neg (show ¬ (9 : Int32) = 3 by decide), if_neg (show ¬ (9 : Int32) = 4 by decide), if_neg (show ¬ (9 : Int32) = 5 by decide), if_neg (show ¬ (9 : Int32) = 6 by decide), if_neg (show ¬ (9 : Int32) = 7 by decide), if_neg (show ¬ (9 : Int32) = 8 by decide), if_pos rfl, show σ3 214 46 = σ 187 0 from (f3 214 46 (by decide)).trans (s2.trans s1.symm)]
      exact hq _ fr12
  by_cases hx10 : x = 10
  · subst hx10
    refine both_q h (σ 0 12) none (fun Q hq => ?_) (fun σ3 f3 Q hq => ?_)
    · refine k_129_0 ?_
      rw [if_neg (show ¬ (10 : Int32) = 0 by decide), if_neg (show ¬ (10 : Int32) = 1 by decide), if_neg (show ¬ (10 : Int32) = 2 by decide), if_neg (show ¬ (10 : Int32) = 3 by decide), if_neg (show ¬ (10 : Int32) = 4 by decide), if_neg (show ¬ (10 : Int32) = 5 by decide), if_neg (show ¬ (10 : Int32) = 6 by decide), if_neg (show ¬ (10 : Int32) = 7 by decide), if_neg (show ¬ (10 : Int32) = 8 by decide), if_neg (show ¬ (10 : Int32) = 9 by decide), if_pos rfl]
      exact hq σ Fr.rf
    · refine k_272_0 ?_
      rw [if_neg (show ¬ (10 : Int32) = 0 by decide), if_neg (show ¬ (10 : Int32) = 1 by decide), if_neg (show ¬ (10 : Int32) = 2 by decide), if_neg (show ¬ (10 : Int32) = 3 by decide), if_neg (show ¬ (10 : Int32) = 4 by decide), if_neg (show ¬ (10 : Int32) = 5 by decide), if_neg (show ¬ (10 : Int32) = 6 by decide), if_neg (show ¬ (10 : Int32) = 7 by decide), if_neg (show ¬ (10 : Int32) = 8 by decide), if_neg (show ¬ (10 : Int32) = 9 by decide), if_pos rfl, show σ3 214 11 = σ 0 12 from (f3 214 11 (by decide)).trans (o2.trans o1.symm)]
      exact hq _ fr12
  by_cases hx11 : x = 11
  · subst hx11
    refine both_q h (σ 1 1) none (fun Q hq => ?_) (fun σ3 f3 Q hq => ?_)
    · refine k_129_0 ?_
      rw [if_neg (show ¬ (11 : Int32) = 0 by decide), if_neg (show ¬ (11 : Int32) = 1 by decide), if_neg (show ¬ (11 : Int32) = 2 by decide), if_neg (show ¬ (11 : Int32) = 3 by decide), if_neg (show ¬ (11 : Int32) = 4 by decide), if_neg (show ¬ (11 : Int32) = 5 by decide), if_neg (show ¬ (11 : Int32) = 6 by decide), if_neg (show ¬ (11 : Int32) = 7 by decide), if_neg (show ¬ (11 : Int32) = 8 by decide), if_neg (show ¬ (11 : Int32) = 9 by decide), if_neg (show ¬ (11 : Int32) = 10 by decide), if_pos rfl]
      exact hq σ Fr.rf
    · refine k_272_0 ?_
      rw [if_neg (show ¬ (11 : Int32) = 0 by decide), if_neg (show ¬ (11 : Int32) = 1 by decide), if_neg (show ¬ (11 : Int32) = 2 by decide), if_neg (show ¬ (11 : Int32) = 3 by decide), if_neg (show ¬ (11 : Int32) = 4 by decide), if_neg (show ¬ (11 : Int32) = 5 by decide), if_neg (show ¬ (11 : Int32) = 6 by decide), if_neg (show ¬ (11 : Int32) = 7 by decide), if_neg (show ¬ (11 : Int32) = 8 by decide), if_neg (show ¬ (11 : Int32) = 9 by decide), if_neg (show ¬ (11 : Int32) = 10 by decide), if_pos rfl, show σ3 214 9 = σ 1 1 from (f3 214 9 (by decide)).trans (t2.trans t1.symm)]
      exact hq _ fr12
  refine both_q h (-1) none (fun Q hq => ?_) (fun σ3 f3 Q hq => ?_)
  · refine k_129_0 ?_
    rw [if_neg hx0, if_neg hx1, if_neg hx2, if_neg hx3, if_neg hx4, if_neg hx5, if_neg hx6, if_neg hx7, if_neg hx8, if_neg hx9, if_neg hx10, if_neg hx11]
    exact hq σ Fr.rf
  · refine k_272_0 ?_
    rw [if_neg hx0, if_neg hx1, if_neg hx2, if_neg hx3, if_neg hx4, if_neg hx5, if_neg hx6, if_neg hx7, if_neg hx8, if_neg hx9, if_neg hx10, if_neg hx11]
    exact hq _ fr12
