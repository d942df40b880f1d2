/-! the start, one being tired otherwise; cost -/
theorem sW_rng {c : MC} {J : Int32} : ∀ n k (r : Nat → Int32) fa, (sW c J n k r fa).1 = -1 ∨ ∃ m, k ≤ m ∧ m < k + n ∧ (sW c J n k r fa).1 = nI m := by
  intro n
  induction n with
  | zero => intro _ _ _; exact Or.inl rfl
  | succ n ih =>
    intro k r fa
    unfold sW
    split
    · rcases ih (k + 1) (ms c false r) (fa + bc (fls c J r)) with h | ⟨m, h1, h2, h3⟩
      · exact Or.inl h
      · exact Or.inr ⟨m, by omega, by omega, h3⟩
    · exact Or.inr ⟨k, Nat.le_refl k, by omega, rfl⟩
theorem stR_rng {c : MC} {j : Int32} {r : Nat → Int32} : (stR c j r).1 = -1 ∨ ∃ m, m < 300 ∧ (stR c j r).1 = nI m := by
  unfold stR
  rcases sW_rng (c := c) (J := so (nI c.1) c.2.2.1 j c.1) 300 0 r 0 with h | ⟨m, -, h2, h3⟩
  · exact Or.inl h
  · exact Or.inr ⟨m, by omega, h3⟩
theorem stR_cong {c : MC} {j : Int32} {r r' : Nat → Int32} (h9 : c.1 ≤ 9) (h : REq r r') : stR c j r = stR c j r' := sW_cong h9 300 0 _ _ 0 h
theorem Ctx.hj {c : MC} {l : List Int32} {t : Nat} {σ : zS} (h : Ctx c l t σ) : σ 0 13 = σ 214 4 := h.2.2.2.2.2.2.2.2.2.2
theorem c_stT1 {d : Nat} {σ σ1 : zS} {c : MC} {l : List Int32} {t f : Nat} (hc : Ctx c l t σ) (f1 : Fr tC σ σ1) (hf : f < c.1) (v : Int32) (ht : t + 300 < 1073741824) {Q : Int32 → zS → Prop} (hq : ∀ σ', Fr scC σ1 σ' → Q (stR c (σ 214 4) (trd (σ 215) f v)).1 σ') : ZC (d + 7) 153 [.ref 0, .int (nI f), .int v] σ1 Q := by
  refine k_153_0 ?_
  refine c_take2 hc f1 (fun σ2 f2 p2 => ?_)
  refine c_tireT v p2 hf (fun σ3 f3 p3 => ?_)
  have f13 := Fr.tr f2 f3
  refine c_startWithin (n := 300) (j := σ 214 4) p3 ((f13 0 13 (by decide)).trans ((f1 0 13 (by decide)).trans hc.hj)) (by decide) ht (fun σ4 f4 _ _ => ?_)
  exact hq σ4 (Fr.tr f13 (Fr.sS f4))
theorem c_stT0 {d : Nat} {σ σ1 : zS} {c : MC} {l : List Int32} {t : Nat} (hc : Ctx c l t σ) (f1 : Fr tC σ σ1) (v : Int32) (ht : t + 300 < 1073741824) {Q : Int32 → zS → Prop} (hq : ∀ σ', Fr scC σ1 σ' → Q (stR c (σ 214 4) (σ 215)).1 σ') : ZC (d + 7) 153 [.ref 0, .int (-1), .int v] σ1 Q := by
  refine k_153_0 ?_
  refine c_take2 hc f1 (fun σ2 f2 p2 => ?_)
  rw [c_tire0]
  refine c_startWithin (n := 300) (j := σ 214 4) p2 ((f2 0 13 (by decide)).trans ((f1 0 13 (by decide)).trans hc.hj)) (by decide) ht (fun σ4 f4 _ _ => ?_)
  exact hq σ4 (Fr.tr f2 (Fr.sS f4))
theorem r_stW {d : Nat} {σ σ3 σ4 : zS} {c : MC} {l : List Int32} {t f : Nat} (hc : Ctx c l t σ) (f3 : Fr tC σ σ3) (f4 : Fr tR σ3 σ4) (hf : f < 9) (v : Int32) (ht : t + 300 < 100000000) {Q : Int32 → zS → Prop} (hq : ∀ σ', Fr scR σ4 σ' → Q (stR c (σ 214 4) (trd (σ 215) f v)).1 σ') : ZC (d + 228) 247 [.ref 214, .int (nI f), .int v] σ4 Q := by
  refine k_247_0 ?_
  refine r_begin2 hc f3 f4 (fun σ5 f5' f5 p5 e7 e4 e5 => ?_)
  have hreq : REq (σ5 226) (σ 215) := fun i hi => e5 i (by omega)
  rw [r_more']
  simp (disch := omega) only [zup_eq, zput_app, zput_twice, upd_same, nI_1, za2, zA2, zm2, za3, zA3, zm3, za4, zA4, zm4, za9, zA9, zm9, za10, zA10, zm10, za18, zA18, zm18, za27, zA27, zm27, za36, zA36, zm36, za48, zA48, zm48, za288, zA288, zm288, zcl, zinT, upd_ne, upd_eq, zlt, znlt, zl2, zn2_, zl3, zn3_, zl5, zn5_, zl9, zn9_, zl10, zn10_, zl16, zn16_, zl20, zn20_, zl40, zn40_, zl60, zn60_, zl76, zn76_, zl80, zn80_, zl288, zn288_, zl300, zn300_, zneg, Nat.reduceEqDiff, Nat.reduceAdd, ↓reduceIte]
  rw [show upd (σ5 226) f (mx0 (mn9 (σ5 226 f + v))) = trd (σ5 226) f v from rfl]
  have p6 : PF 226 c l t (zput σ5 226 (trd (σ5 226) f v)) := p5.set (trd_WR hc.h9 hf _ p5.2.2.2.2.2.2)
  have k7 : (zput σ5 226 (trd (σ5 226) f v)) 214 7 = 0 := by simp only [zput_app, Nat.reduceEqDiff, ↓reduceIte]; exact e7
  have kj : (zput σ5 226 (trd (σ5 226) f v)) 214 4 = σ 214 4 := by simp only [zput_app, Nat.reduceEqDiff, ↓reduceIte]; exact e4
  refine r_findStart (n := 300) (j := σ 214 4) p6 k7 kj (by decide) ht (fun σ9 f9 _ => ?_)
  rw [e226]
  have e : (sW c (so (nI c.1) c.2.2.1 (σ 214 4) c.1) 300 0 (trd (σ5 226) f v) 0) = stR c (σ 214 4) (trd (σ 215) f v) := sW_cong hc.h9 300 0 _ _ 0 (trd_cong hreq hf v)
  rw [e]
  exact hq σ9 (Fr.tr f5 (Fr.tr fr226 (Fr.sRS f9)))
theorem r_st0 {d : Nat} {σ σ3 σ4 : zS} {c : MC} {l : List Int32} {t : Nat} (hc : Ctx c l t σ) (f3 : Fr tC σ σ3) (f4 : Fr tR σ3 σ4) (ht : t + 300 < 100000000) {Q : Int32 → zS → Prop} (hq : ∀ σ', Fr scR σ4 σ' → Q (stR c (σ 214 4) (σ 215)).1 σ') : ZC (d + 227) 227 [.ref 214] σ4 (fun _ s => ZC (d + 227) 228 [.ref 214, .int 300] s Q) := by
  refine r_begin2 hc f3 f4 (fun σ5 f5' f5 p5 e7 e4 e5 => ?_)
  have hreq : REq (σ5 226) (σ 215) := fun i hi => e5 i (by omega)
  refine r_findStart (n := 300) (j := σ 214 4) p5 e7 e4 (by decide) ht (fun σ9 f9 _ => ?_)
  have e : (sW c (so (nI c.1) c.2.2.1 (σ 214 4) c.1) 300 0 (σ5 226) 0) = stR c (σ 214 4) (σ 215) := sW_cong hc.h9 300 0 _ _ 0 hreq
  rw [e]
  exact hq σ9 (Fr.tr f5 (Fr.sRS f9))
/-! crews -/
theorem crewC (x : Int32) {k : Nat} (h : k ≤ 1000) : (x < 0 ∨ nI k ≤ x) ∨ ∃ i, i < k ∧ x = nI i := by
  rcases pk_ix x (n := k) (by omega) with h | h | ⟨j, h1, h2⟩
  · exact Or.inl (Or.inl h)
  · exact Or.inl (Or.inr h)
  · exact Or.inr ⟨j, h1, h2⟩
theorem s_isInP1 {d : Nat} {σ : zS} {i k : Nat} (hk : k ≤ 1000) (hi : i < k) (Q : Int32 → zS → Prop) : ZC (d + 1) 133 [.int (nI i), .int 0, .int (nI k - 1)] σ Q = Q 1 σ := by
  rw [s_isIn, if_neg (nI_pos (by omega)), if_neg (by rw [zpred _ (by omega)]; exact fun q => q (nI_lt hi (by omega)))]
theorem s_isInP0 {d : Nat} {σ : zS} {k : Nat} {x : Int32} (hk : k ≤ 1000) (hx : x < 0 ∨ nI k ≤ x) (Q : Int32 → zS → Prop) : ZC (d + 1) 133 [.int x, .int 0, .int (nI k - 1)] σ Q = Q 0 σ := by
  rw [s_isIn]
  by_cases h0 : x < 0
  · rw [if_pos h0]
  · rw [if_neg h0, if_pos (by rw [zpred _ (by omega)]; exact i_le_iff.mp (hx.resolve_left h0))]
theorem s_inP1 {d : Nat} {σ : zS} {i k : Nat} (hk : k ≤ 1000) (hi : i < k) (Q : Int32 → zS → Prop) : ZC (d + 1) 171 [.int (nI i), .int 0, .int (nI k - 1)] σ Q = Q 1 σ := by
  rw [s_in, if_neg (nI_pos (by omega)), if_neg (by rw [zpred _ (by omega)]; exact fun q => q (nI_lt hi (by omega)))]
theorem s_inP0 {d : Nat} {σ : zS} {k : Nat} {x : Int32} (hk : k ≤ 1000) (hx : x < 0 ∨ nI k ≤ x) (Q : Int32 → zS → Prop) : ZC (d + 1) 171 [.int x, .int 0, .int (nI k - 1)] σ Q = Q 0 σ := by
  rw [s_in]
  by_cases h0 : x < 0
  · rw [if_pos h0]
  · rw [if_neg h0, if_pos (by rw [zpred _ (by omega)]; exact i_le_iff.mp (hx.resolve_left h0))]
/-- what it costs: ready x, hold y, late z -/
def prc (y z x st : Int32) : Int32 := if st < x then z * (x - st) else y * (st - x)
theorem c_price {d : Nat} {σ : zS} {i : Nat} (hi : i < 5) (x st : Int32) (Q : Int32 → zS → Prop) : ZC (d + 1) 21 [.ref 183, .int (nI i), .int x, .int st] σ Q = Q (prc (σ 185 i) (σ 186 i) x st) σ := by
  refine s_of (fun Q h => k_21_0 ?_) Q
  unfold prc at h
  simp (disch := omega) only [zup_eq, zput_app, zput_twice, upd_same, nI_1, za2, zA2, zm2, za3, zA3, zm3, za4, zA4, zm4, za9, zA9, zm9, za10, zA10, zm10, za18, zA18, zm18, za27, zA27, zm27, za36, zA36, zm36, za48, zA48, zm48, za288, zA288, zm288, zcl, zinT, upd_ne, upd_eq, zlt, znlt, zl2, zn2_, zl3, zn3_, zl5, zn5_, zl9, zn9_, zl10, zn10_, zl16, zn16_, zl20, zn20_, zl40, zn40_, zl60, zn60_, zl76, zn76_, zl80, zn80_, zl288, zn288_, zl300, zn300_, zneg, Nat.reduceEqDiff, Nat.reduceAdd, ↓reduceIte]
  by_cases hq : st < x
  · rw [if_pos hq] at h ⊢; exact h
  · rw [if_neg hq] at h ⊢; exact h
theorem r_costOf {d : Nat} {σ : zS} {i : Nat} (hi : i < 5) (x st : Int32) (Q : Int32 → zS → Prop) : ZC (d + 1) 259 [.ref 214, .int (nI i), .int x, .int st] σ Q = Q (prc (σ 231 (3 * i + 1)) (σ 231 (3 * i + 2)) x st) σ := by
  refine s_of (fun Q h => k_259_0 ?_) Q
  unfold prc at h
  simp (disch := omega) only [zup_eq, zput_app, zput_twice, upd_same, nI_1, za2, zA2, zm2, za3, zA3, zm3, za4, zA4, zm4, za9, zA9, zm9, za10, zA10, zm10, za18, zA18, zm18, za27, zA27, zm27, za36, zA36, zm36, za48, zA48, zm48, za288, zA288, zm288, zcl, zinT, upd_ne, upd_eq, zlt, znlt, zl2, zn2_, zl3, zn3_, zl5, zn5_, zl9, zn9_, zl10, zn10_, zl16, zn16_, zl20, zn20_, zl40, zn40_, zl60, zn60_, zl76, zn76_, zl80, zn80_, zl288, zn288_, zl300, zn300_, zneg, Nat.reduceEqDiff, Nat.reduceAdd, ↓reduceIte]
  by_cases hq : st < x
  · rw [if_pos hq] at h ⊢; exact h
  · rw [if_neg hq] at h ⊢; exact h
theorem Inv.hcrew {b : Nat} {σ : zS} (h : Inv b σ) : pCrew σ := by
  obtain ⟨F, l, W, -, -, -, -, -, -, -, h8, -⟩ := h
  exact h8
theorem call_cost {d e b : Nat} {σ : zS} (x : Int32) (h : Inv b σ) (hb : b < 90000000) : Both (d + 8) 119 [.ref 0, .int x] (e + 228) 260 [.ref 214, .int x] b σ := by
  obtain ⟨c, l, t, ht, hc⟩ := h.ctx
  obtain ⟨k, hk, k1, k2, k3⟩ := h.hcrew
  have h43 : ∀ σ3, Fr tC σ σ3 → (zup σ3 214 12 0) 214 43 = nI k := fun σ3 f3 => (fr12 (σ := σ3) 214 43 (by decide)).trans ((f3 214 43 (by decide)).trans k2)
  have h43' : ∀ σ3, Fr tC σ σ3 → σ3 214 43 = nI k := fun σ3 f3 => (f3 214 43 (by decide)).trans k2
  rcases crewC x (k := k) (by omega) with hx | ⟨i, hi, rfl⟩
  · refine both_q h (-1) none (fun Q hq => ?_) (fun σ3 f3 Q hq => ?_)
    · refine k_119_0 ?_
      rw [k1, s_isInP0 (by omega) hx, if_pos rfl]
      exact hq σ Fr.rf
    · refine k_260_0 ?_
      rw [h43' σ3 f3, s_inP0 (by omega) hx, if_pos rfl]
      exact hq _ fr12
  obtain ⟨u, v, w, hu, hv, hw, e1, e2, e3, e4, e5, e6⟩ := k3 i hi
  generalize hR : (stR c (σ 214 4) (σ 215)).1 = R
  have hRr := stR_rng (c := c) (j := σ 214 4) (r := σ 215)
  rw [hR] at hRr
  refine both_q h (if R = -1 then -2 else prc (nI v) (nI w) (nI u) R) (if R = -1 then none else some (1, tv1 (if R < nI u then 0 else 1))) (fun Q hq => ?_) (fun σ3 f3 Q hq => ?_)
  · refine k_119_0 ?_
    rw [k1, s_isInP1 (by omega) hi, if_neg (by decide)]
    refine c_stT0 hc Fr.rf 0 (by omega) (fun σ1 f1 => ?_)
    rw [hR]
    by_cases hz : R = -1
    · rw [if_pos hz]; rw [if_pos hz, if_pos hz] at hq
      exact hq σ1 f1
    · rw [if_neg hz]; rw [if_neg hz, if_neg hz] at hq
      simp (disch := omega) only [zup_eq, zput_app, zput_twice, upd_same, nI_1, za2, zA2, zm2, za3, zA3, zm3, za4, zA4, zm4, za9, zA9, zm9, za10, zA10, zm10, za18, zA18, zm18, za27, zA27, zm27, za36, zA36, zm36, za48, zA48, zm48, za288, zA288, zm288, zcl, zinT, upd_ne, upd_eq, zlt, znlt, zl2, zn2_, zl3, zn3_, zl5, zn5_, zl9, zn9_, zl10, zn10_, zl16, zn16_, zl20, zn20_, zl40, zn40_, zl60, zn60_, zl76, zn76_, zl80, zn80_, zl288, zn288_, zl300, zn300_, zneg, Nat.reduceEqDiff, Nat.reduceAdd, ↓reduceIte]
      have q4 : σ1 184 i = nI u := (f1 184 i (by simp [scC, scr])).trans e1
      rw [q4]
      by_cases hlt : R < nI u
      · rw [if_pos hlt]; rw [if_pos hlt] at hq
        refine c_tell1 (fun σ2 f2 t2 => ?_)
        have f12' := Fr.tr f1.cT f2.sTC
        rw [c_price (by omega), show σ2 185 i = nI v from (f12' 185 i (by simp [tC, scrT, scr, dTold])).trans e2, show σ2 186 i = nI w from (f12' 186 i (by simp [tC, scrT, scr, dTold])).trans e3]
        exact hq σ2 ⟨by decide, f12', t2⟩
      · rw [if_neg hlt]; rw [if_neg hlt] at hq
        refine c_tell1 (fun σ2 f2 t2 => ?_)
        have f12' := Fr.tr f1.cT f2.sTC
        rw [c_price (by omega), show σ2 185 i = nI v from (f12' 185 i (by simp [tC, scrT, scr, dTold])).trans e2, show σ2 186 i = nI w from (f12' 186 i (by simp [tC, scrT, scr, dTold])).trans e3]
        exact hq σ2 ⟨by decide, f12', t2⟩
  · refine k_260_0 ?_
    rw [h43' σ3 f3, s_inP1 (by omega) hi, if_neg (by decide)]
    refine r_st0 hc f3 fr12.rT (by omega) (fun σ5 f5 => ?_)
    rw [hR]
    have f35 := Fr.tr fr12 f5
    have q231 : ∀ σ6, Fr tR σ3 σ6 → ∀ n, σ6 231 n = σ 231 n := fun σ6 f6 n => (f6 231 n (by simp [tR, scrT, scr, dTold])).trans (f3 231 n (by simp [tC]))
    by_cases hz : R = -1
    · rw [if_pos hz]; rw [if_pos hz, if_pos hz] at hq
      exact hq σ5 f35
    · rw [if_neg hz]; rw [if_neg hz, if_neg hz] at hq
      simp (disch := omega) only [zup_eq, zput_app, zput_twice, upd_same, nI_1, za2, zA2, zm2, za3, zA3, zm3, za4, zA4, zm4, za9, zA9, zm9, za10, zA10, zm10, za18, zA18, zm18, za27, zA27, zm27, za36, zA36, zm36, za48, zA48, zm48, za288, zA288, zm288, zcl, zinT, upd_ne, upd_eq, zlt, znlt, zl2, zn2_, zl3, zn3_, zl5, zn5_, zl9, zn9_, zl10, zn10_, zl16, zn16_, zl20, zn20_, zl40, zn40_, zl60, zn60_, zl76, zn76_, zl80, zn80_, zl288, zn288_, zl300, zn300_, zneg, Nat.reduceEqDiff, Nat.reduceAdd, ↓reduceIte, q231 σ5 f35.rT, e4]
      by_cases hlt : R < nI u
      · rw [if_pos hlt]; rw [if_pos hlt] at hq
        refine r_tell1 (fun σ6 f6 t6 => ?_)
        have f36 := Fr.tr f35.rT f6.sTR
        rw [r_costOf (by omega), q231 σ6 f36, q231 σ6 f36, q231 σ6 f36, e4, e5, e6]
        exact hq σ6 ⟨f36, t6⟩
      · rw [if_neg hlt]; rw [if_neg hlt] at hq
        refine r_tell1 (fun σ6 f6 t6 => ?_)
        have f36 := Fr.tr f35.rT f6.sTR
        rw [r_costOf (by omega), q231 σ6 f36, q231 σ6 f36, q231 σ6 f36, e4, e5, e6]
        exact hq σ6 ⟨f36, t6⟩
