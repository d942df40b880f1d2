/-! what the parts come to, in the class -/
theorem s_joined {d : Nat} (c a b : Int32) (σ : zS) (Q : Int32 → zS → Prop) : ZC (d + 1) 44 [.int c, .int a, .int b] σ Q = Q (jn c a b) σ := by
  refine s_of (fun Q h => k_44_0 ?_) Q
  unfold jn at h
  by_cases h42 : c = 42
  · rw [if_pos h42] at h ⊢; exact h
  rw [if_neg h42] at h ⊢
  by_cases h43 : c = 43
  · rw [if_pos h43] at h ⊢; exact h
  rw [if_neg h43] at h ⊢
  by_cases h45 : c = 45
  · rw [if_pos h45] at h ⊢; exact h
  rw [if_neg h45] at h ⊢
  by_cases h60 : c = 60
  · rw [if_pos h60] at h ⊢
    by_cases q : a < b <;> simp only [q, ↓reduceIte] at h ⊢ <;> exact h
  rw [if_neg h60] at h ⊢
  by_cases h61 : c = 61
  · rw [if_pos h61] at h ⊢
    by_cases q : a = b <;> simp only [q, ↓reduceIte] at h ⊢ <;> exact h
  rw [if_neg h61] at h ⊢
  by_cases h62 : c = 62
  · rw [if_pos h62] at h ⊢
    by_cases q : b < a <;> simp only [q, ↓reduceIte] at h ⊢ <;> exact h
  rw [if_neg h62] at h ⊢
  by_cases q : b = 0 <;> simp only [q, ↓reduceIte] at h ⊢ <;> exact h
/-- the pile holds a stack -/
def ST : List Int32 → zS → Prop
  | [], _ => True
  | x :: t, σ => σ 6 t.length = x ∧ ST t σ
theorem ST_up {σ σ' : zS} : ∀ t, ST t σ → (∀ j, j < t.length → σ' 6 j = σ 6 j) → ST t σ' := by
  intro t
  induction t with
  | nil => intro _ _; trivial
  | cons x t ih =>
    intro h hs
    exact ⟨(hs t.length (Nat.lt_succ_self _)).trans h.1, ih h.2 (fun j hj => hs j (Nat.lt_succ_of_lt hj))⟩
def rvl (l : List Int32) (v : Nat → Int32) : Bool := !decide ((ex v l []).headD 0 = 0)
theorem ex1_cong {v v' : Nat → Int32} (h : ∀ i, i < 9 → v i = v' i) (p : Int32) (st : List Int32) : ex1 v p st = ex1 v' p st := by
  unfold ex1
  by_cases h1 : p = -126
  · rw [if_pos h1, if_pos h1]
  rw [if_neg h1, if_neg h1]
  by_cases h2 : p < 0
  · rw [if_pos h2, if_pos h2]
  rw [if_neg h2, if_neg h2]
  by_cases h3 : p - 1000 < 0
  · rw [if_pos h3, if_pos h3]
  rw [if_neg h3, if_neg h3]
  by_cases h4 : p - 1000 < 9
  · rw [if_pos h4, if_pos h4]
    obtain ⟨j, hj, e⟩ := nI_of h3
    rw [e] at h4 ⊢
    rw [nI_clamp hj]
    have : nI j < nI 9 := h4
    rw [nI_ltI hj (by decide)] at this
    rw [h j this]
  · rw [if_neg h4, if_neg h4]
theorem ex_cong {v v' : Nat → Int32} (h : ∀ i, i < 9 → v i = v' i) : ∀ (l st : List Int32), ex v l st = ex v' l st := by
  intro l
  induction l with
  | nil => intro st; rfl
  | cons p r ih =>
    intro st
    show ex v r (ex1 v p st) = ex v' r (ex1 v' p st)
    rw [ex1_cong h, ih]
theorem rvl_RVC (l : List Int32) : RVC (rvl l) := fun v v' h => by unfold rvl; rw [ex_cong h]
/-- the class's rule is the list l -/
def RL (l : List Int32) (σ : zS) : Prop := σ 3 2 = nI l.length ∧ (∀ i, i < l.length → σ 5 i = l.getD i 0) ∧ l.length ≤ 40 ∧ One l
theorem getD_drop (l : List Int32) {i : Nat} (h : i < l.length) : l.drop i = l.getD i 0 :: l.drop (i + 1) := by
  rw [List.drop_eq_getElem_cons h]
  congr 1
  rw [List.getD_eq_getElem?_getD, List.getElem?_eq_getElem h]
  rfl
theorem c_holds {l : List Int32} {σ : zS} (h : RL l σ) (d : Nat) : HK (d + 2) (rvl l) σ := by
  obtain ⟨h1, h2, h3, h4⟩ := h
  intro σ' e1 e2 Q hq
  refine k_43_0 ?_
  have loop : ∀ m i st (σ1 : zS), i + m = l.length → st.length ≤ i → Fr (fun o _ => decide (o = 6)) σ' σ1 → ST st σ1 → ex (σ' 4) (l.drop i) st = ex (σ' 4) l [] → ∀ w3 w4, Z (d + 1) 43 Q 4 [.ref 3, .int (nI st.length), .int (nI i), w3, w4] [] σ1 := by
    intro m
    induction m with
    | zero =>
      intro i st σ1 him hst hf hS hex w3 w4
      refine k_43_4 ?_
      have e3 : σ1 3 2 = nI l.length := (hf 3 2 (by decide)).trans (e1.trans h1)
      rw [e3, if_neg (nI_nlt (by omega) (by omega))]
      obtain ⟨w, hw⟩ := h4 (σ' 4)
      have hdrop : l.drop i = [] := by rw [List.drop_eq_nil_iff]; omega
      rw [hdrop] at hex
      have hst2 : st = [w] := by
        have : ex (σ' 4) [] st = st := rfl
        rw [← this, hex, hw]
      rw [hst2] at hS
      have h0 : σ1 6 0 = w := hS.1
      have hv : rvl l (σ' 4) = !decide (w = 0) := by unfold rvl; rw [hw]; rfl
      rw [h0]
      rw [hv] at hq
      by_cases hz : w = 0
      · rw [if_pos hz]; rw [hz] at hq; exact hq σ1 hf
      · rw [if_neg hz]
        have : (!decide (w = 0)) = true := by simp [hz]
        rw [this] at hq
        exact hq σ1 hf
    | succ m ih =>
      intro i st σ1 him hst hf hS hex w3 w4
      refine k_43_4 ?_
      have e3 : σ1 3 2 = nI l.length := (hf 3 2 (by decide)).trans (e1.trans h1)
      have e5 : σ1 5 i = l.getD i 0 := by
        have : σ1 5 i = σ' 5 i := hf 5 i (by simp)
        rw [this, e2]; exact h2 i (by omega)
      rw [getD_drop l (by omega)] at hex
      simp (disch := omega) only [e3, zup_eq, zput_app, zput_twice, upd_same, nI_1, za2, zA2, zm2, za3, zA3, zm3, za4, zA4, zm4, za9, zA9, zm9, za10, zA10, zm10, za18, zA18, zm18, za27, zA27, zm27, za36, zA36, zm36, za48, zA48, zm48, za288, zA288, zm288, zcl, zinT, upd_ne, upd_eq, zlt, znlt, zl2, zn2_, zl3, zn3_, zl5, zn5_, zl9, zn9_, zl10, zn10_, zl16, zn16_, zl20, zn20_, zl40, zn40_, zl60, zn60_, zl76, zn76_, zl80, zn80_, zl288, zn288_, zl300, zn300_, zneg, Nat.reduceEqDiff, Nat.reduceAdd, ↓reduceIte, e5]
      generalize hp : l.getD i 0 = p at hex
      have hex' : ex (σ' 4) (l.drop (i + 1)) (ex1 (σ' 4) p st) = ex (σ' 4) l [] := hex
      have next : ∀ st' (σ2 : zS), st' = ex1 (σ' 4) p st → st'.length ≤ i + 1 → Fr (fun o _ => decide (o = 6)) σ1 σ2 → ST st' σ2 → ∀ w4, Z (d + 1) 43 Q 139 [.ref 3, .int (nI st'.length), .int (nI i), .int p, w4] [] σ2 := by
        intro st' σ2 hst' hlen hf2 hS2 w4
        refine k_43_139 ?_
        rw [nI_1]
        refine ih (i + 1) st' σ2 (by omega) hlen (Fr.tr hf hf2) hS2 ?_ _ _
        rw [hst']; exact hex'
      have up6 : ∀ (j : Nat) (x : Int32), Fr (fun o _ => decide (o = 6)) σ1 (zput σ1 6 (upd (σ1 6) j x)) := fun j x => Fr.put (fun i q => by simp at q)
      by_cases hm : p = -126
      · rw [if_pos hm]
        cases st with
        | nil =>
          rw [if_neg (by decide)]
          exact next [] σ1 (by unfold ex1; rw [if_pos hm]) (by simp) Fr.rf trivial _
        | cons x t =>
          have hlt : (x :: t).length = t.length + 1 := rfl
          rw [hlt] at hst ⊢
          rw [if_pos (show (0 : Int32) < nI (t.length + 1) from nI_lt (a := 0) (by omega) (by omega)), nI_pred]
          simp (disch := omega) only [zup_eq, zput_app, zput_twice, upd_same, nI_1, za2, zA2, zm2, za3, zA3, zm3, za4, zA4, zm4, za9, zA9, zm9, za10, zA10, zm10, za18, zA18, zm18, za27, zA27, zm27, za36, zA36, zm36, za48, zA48, zm48, za288, zA288, zm288, zcl, zinT, upd_ne, upd_eq, zlt, znlt, zl2, zn2_, zl3, zn3_, zl5, zn5_, zl9, zn9_, zl10, zn10_, zl16, zn16_, zl20, zn20_, zl40, zn40_, zl60, zn60_, zl76, zn76_, zl80, zn80_, zl288, zn288_, zl300, zn300_, zneg, Nat.reduceEqDiff, Nat.reduceAdd, ↓reduceIte]
          refine next (-x :: t) _ (by unfold ex1; rw [if_pos hm]) (by show t.length + 1 ≤ i + 1; omega) (up6 _ _) ⟨?_, ?_⟩ _
          · simp (disch := omega) only [zup_eq, zput_app, zput_twice, upd_same, nI_1, za2, zA2, zm2, za3, zA3, zm3, za4, zA4, zm4, za9, zA9, zm9, za10, zA10, zm10, za18, zA18, zm18, za27, zA27, zm27, za36, zA36, zm36, za48, zA48, zm48, za288, zA288, zm288, zcl, zinT, upd_ne, upd_eq, zlt, znlt, zl2, zn2_, zl3, zn3_, zl5, zn5_, zl9, zn9_, zl10, zn10_, zl16, zn16_, zl20, zn20_, zl40, zn40_, zl60, zn60_, zl76, zn76_, zl80, zn80_, zl288, zn288_, zl300, zn300_, zneg, Nat.reduceEqDiff, Nat.reduceAdd, ↓reduceIte]; rw [hS.1]
          · exact ST_up t hS.2 (fun j hj => by simp (disch := omega) only [zup_eq, zput_app, zput_twice, upd_same, nI_1, za2, zA2, zm2, za3, zA3, zm3, za4, zA4, zm4, za9, zA9, zm9, za10, zA10, zm10, za18, zA18, zm18, za27, zA27, zm27, za36, zA36, zm36, za48, zA48, zm48, za288, zA288, zm288, zcl, zinT, upd_ne, upd_eq, zlt, znlt, zl2, zn2_, zl3, zn3_, zl5, zn5_, zl9, zn9_, zl10, zn10_, zl16, zn16_, zl20, zn20_, zl40, zn40_, zl60, zn60_, zl76, zn76_, zl80, zn80_, zl288, zn288_, zl300, zn300_, zneg, Nat.reduceEqDiff, Nat.reduceAdd, ↓reduceIte])
      · rw [if_neg hm]
        refine k_43_49 ?_
        by_cases hn : p < 0
        · rw [if_pos hn]
          match st, hS, hst with
          | [], hS, hst =>
            rw [if_neg (by decide)]
            exact next [] σ1 (by unfold ex1; rw [if_neg hm, if_pos hn]) (by simp) Fr.rf trivial _
          | [x], hS, hst =>
            rw [if_neg (show ¬ (1 : Int32) < nI [x].length from show ¬ (1 : Int32) < nI 1 from by decide)]
            exact next [x] σ1 (by unfold ex1; rw [if_neg hm, if_pos hn]) (by show 1 ≤ i + 1; omega) Fr.rf hS _
          | y :: x :: t, hS, hst =>
            have hlt : (y :: x :: t).length = t.length + 1 + 1 := rfl
            rw [hlt] at hst ⊢
            rw [if_pos (show (1 : Int32) < nI (t.length + 1 + 1) from nI_lt (a := 1) (by omega) (by omega))]
            refine k_43_58 ?_
            rw [pk_m1, nI_pred]
            refine k_43_70 ?_
            rw [nI_pred]
            simp (disch := omega) only [zup_eq, zput_app, zput_twice, upd_same, nI_1, za2, zA2, zm2, za3, zA3, zm3, za4, zA4, zm4, za9, zA9, zm9, za10, zA10, zm10, za18, zA18, zm18, za27, zA27, zm27, za36, zA36, zm36, za48, zA48, zm48, za288, zA288, zm288, zcl, zinT, upd_ne, upd_eq, zlt, znlt, zl2, zn2_, zl3, zn3_, zl5, zn5_, zl9, zn9_, zl10, zn10_, zl16, zn16_, zl20, zn20_, zl40, zn40_, zl60, zn60_, zl76, zn76_, zl80, zn80_, zl288, zn288_, zl300, zn300_, zneg, Nat.reduceEqDiff, Nat.reduceAdd, ↓reduceIte]
            refine k_43_78 ?_
            simp (disch := omega) only [zup_eq, zput_app, zput_twice, upd_same, nI_1, za2, zA2, zm2, za3, zA3, zm3, za4, zA4, zm4, za9, zA9, zm9, za10, zA10, zm10, za18, zA18, zm18, za27, zA27, zm27, za36, zA36, zm36, za48, zA48, zm48, za288, zA288, zm288, zcl, zinT, upd_ne, upd_eq, zlt, znlt, zl2, zn2_, zl3, zn3_, zl5, zn5_, zl9, zn9_, zl10, zn10_, zl16, zn16_, zl20, zn20_, zl40, zn40_, zl60, zn60_, zl76, zn76_, zl80, zn80_, zl288, zn288_, zl300, zn300_, zneg, Nat.reduceEqDiff, Nat.reduceAdd, ↓reduceIte]
            refine k_43_84 ?_
            rw [s_joined]
            refine k_43_87 ?_
            simp (disch := omega) only [zup_eq, zput_app, zput_twice, upd_same, nI_1, za2, zA2, zm2, za3, zA3, zm3, za4, zA4, zm4, za9, zA9, zm9, za10, zA10, zm10, za18, zA18, zm18, za27, zA27, zm27, za36, zA36, zm36, za48, zA48, zm48, za288, zA288, zm288, zcl, zinT, upd_ne, upd_eq, zlt, znlt, zl2, zn2_, zl3, zn3_, zl5, zn5_, zl9, zn9_, zl10, zn10_, zl16, zn16_, zl20, zn20_, zl40, zn40_, zl60, zn60_, zl76, zn76_, zl80, zn80_, zl288, zn288_, zl300, zn300_, zneg, Nat.reduceEqDiff, Nat.reduceAdd, ↓reduceIte]
            have hx : σ1 6 t.length = x := hS.2.1
            have hy : σ1 6 (t.length + 1) = y := hS.1
            rw [hx, hy]
            refine next (jn (-p) x y :: t) _ (by unfold ex1; rw [if_neg hm, if_pos hn]) (by show t.length + 1 ≤ i + 1; omega) (up6 _ _) ⟨?_, ?_⟩ _
            · simp (disch := omega) only [zup_eq, zput_app, zput_twice, upd_same, nI_1, za2, zA2, zm2, za3, zA3, zm3, za4, zA4, zm4, za9, zA9, zm9, za10, zA10, zm10, za18, zA18, zm18, za27, zA27, zm27, za36, zA36, zm36, za48, zA48, zm48, za288, zA288, zm288, zcl, zinT, upd_ne, upd_eq, zlt, znlt, zl2, zn2_, zl3, zn3_, zl5, zn5_, zl9, zn9_, zl10, zn10_, zl16, zn16_, zl20, zn20_, zl40, zn40_, zl60, zn60_, zl76, zn76_, zl80, zn80_, zl288, zn288_, zl300, zn300_, zneg, Nat.reduceEqDiff, Nat.reduceAdd, ↓reduceIte]
            · exact ST_up t hS.2.2 (fun j hj => by simp (disch := omega) only [zup_eq, zput_app, zput_twice, upd_same, nI_1, za2, zA2, zm2, za3, zA3, zm3, za4, zA4, zm4, za9, zA9, zm9, za10, zA10, zm10, za18, zA18, zm18, za27, zA27, zm27, za36, zA36, zm36, za48, zA48, zm48, za288, zA288, zm288, zcl, zinT, upd_ne, upd_eq, zlt, znlt, zl2, zn2_, zl3, zn3_, zl5, zn5_, zl9, zn9_, zl10, zn10_, zl16, zn16_, zl20, zn20_, zl40, zn40_, zl60, zn60_, zl76, zn76_, zl80, zn80_, zl288, zn288_, zl300, zn300_, zneg, Nat.reduceEqDiff, Nat.reduceAdd, ↓reduceIte])
        · rw [if_neg hn]
          refine k_43_91 ?_
          have push : ∀ (x : Int32) w4, x = (if p - 1000 < 0 then p else if p - 1000 < 9 then σ' 4 (p - 1000).toNatClampNeg else p) → Z (d + 1) 43 Q 139 [.ref 3, .int (nI (st.length + 1)), .int (nI i), .int p, w4] [] (zput σ1 6 (upd (σ1 6) st.length x)) := by
            intro x w4 hx
            refine next (x :: st) _ (by unfold ex1; rw [if_neg hm, if_neg hn, ← hx]) (by show st.length + 1 ≤ i + 1; omega) (up6 _ _) ⟨?_, ?_⟩ _
            · simp (disch := omega) only [zup_eq, zput_app, zput_twice, upd_same, nI_1, za2, zA2, zm2, za3, zA3, zm3, za4, zA4, zm4, za9, zA9, zm9, za10, zA10, zm10, za18, zA18, zm18, za27, zA27, zm27, za36, zA36, zm36, za48, zA48, zm48, za288, zA288, zm288, zcl, zinT, upd_ne, upd_eq, zlt, znlt, zl2, zn2_, zl3, zn3_, zl5, zn5_, zl9, zn9_, zl10, zn10_, zl16, zn16_, zl20, zn20_, zl40, zn40_, zl60, zn60_, zl76, zn76_, zl80, zn80_, zl288, zn288_, zl300, zn300_, zneg, Nat.reduceEqDiff, Nat.reduceAdd, ↓reduceIte]
            · exact ST_up st hS (fun j hj => by simp (disch := omega) only [zup_eq, zput_app, zput_twice, upd_same, nI_1, za2, zA2, zm2, za3, zA3, zm3, za4, zA4, zm4, za9, zA9, zm9, za10, zA10, zm10, za18, zA18, zm18, za27, zA27, zm27, za36, zA36, zm36, za48, zA48, zm48, za288, zA288, zm288, zcl, zinT, upd_ne, upd_eq, zlt, znlt, zl2, zn2_, zl3, zn3_, zl5, zn5_, zl9, zn9_, zl10, zn10_, zl16, zn16_, zl20, zn20_, zl40, zn40_, zl60, zn60_, zl76, zn76_, zl80, zn80_, zl288, zn288_, zl300, zn300_, zneg, Nat.reduceEqDiff, Nat.reduceAdd, ↓reduceIte])
          rw [if_pos (show nI st.length < 40 from nI_lt (b := 40) (by omega) (by decide))]
          refine k_43_104 ?_
          have e9 : (Int32.ofNat 9) = 9 := rfl
          rw [e9]
          by_cases h3' : p - 1000 < 0
          · rw [if_pos h3']
            simp (disch := omega) only [zup_eq, zput_app, zput_twice, upd_same, nI_1, za2, zA2, zm2, za3, zA3, zm3, za4, zA4, zm4, za9, zA9, zm9, za10, zA10, zm10, za18, zA18, zm18, za27, zA27, zm27, za36, zA36, zm36, za48, zA48, zm48, za288, zA288, zm288, zcl, zinT, upd_ne, upd_eq, zlt, znlt, zl2, zn2_, zl3, zn3_, zl5, zn5_, zl9, zn9_, zl10, zn10_, zl16, zn16_, zl20, zn20_, zl40, zn40_, zl60, zn60_, zl76, zn76_, zl80, zn80_, zl288, zn288_, zl300, zn300_, zneg, Nat.reduceEqDiff, Nat.reduceAdd, ↓reduceIte]
            exact push p _ (by rw [if_pos h3'])
          · rw [if_neg h3']
            by_cases h4' : p - 1000 < 9
            · rw [if_pos h4']
              obtain ⟨j, hj, ej⟩ := nI_of h3'
              have hj9 : j < 9 := by
                rw [ej] at h4'
                have : nI j < nI 9 := h4'
                rwa [nI_ltI hj (by decide)] at this
              have e4 : σ1 4 j = σ' 4 j := hf 4 j (by simp)
              have hpx : σ' 4 j = (if p - 1000 < 0 then p else if p - 1000 < 9 then σ' 4 (p - 1000).toNatClampNeg else p) := by
                rw [if_neg h3', if_pos h4', ej, nI_clamp hj]
              simp (disch := omega) only [ej, zup_eq, zput_app, zput_twice, upd_same, nI_1, za2, zA2, zm2, za3, zA3, zm3, za4, zA4, zm4, za9, zA9, zm9, za10, zA10, zm10, za18, zA18, zm18, za27, zA27, zm27, za36, zA36, zm36, za48, zA48, zm48, za288, zA288, zm288, zcl, zinT, upd_ne, upd_eq, zlt, znlt, zl2, zn2_, zl3, zn3_, zl5, zn5_, zl9, zn9_, zl10, zn10_, zl16, zn16_, zl20, zn20_, zl40, zn40_, zl60, zn60_, zl76, zn76_, zl80, zn80_, zl288, zn288_, zl300, zn300_, zneg, Nat.reduceEqDiff, Nat.reduceAdd, ↓reduceIte, e4]
              exact push _ _ hpx
            · rw [if_neg h4']
              simp (disch := omega) only [zup_eq, zput_app, zput_twice, upd_same, nI_1, za2, zA2, zm2, za3, zA3, zm3, za4, zA4, zm4, za9, zA9, zm9, za10, zA10, zm10, za18, zA18, zm18, za27, zA27, zm27, za36, zA36, zm36, za48, zA48, zm48, za288, zA288, zm288, zcl, zinT, upd_ne, upd_eq, zlt, znlt, zl2, zn2_, zl3, zn3_, zl5, zn5_, zl9, zn9_, zl10, zn10_, zl16, zn16_, zl20, zn20_, zl40, zn40_, zl60, zn60_, zl76, zn76_, zl80, zn80_, zl288, zn288_, zl300, zn300_, zneg, Nat.reduceEqDiff, Nat.reduceAdd, ↓reduceIte]
              exact push p _ (by rw [if_neg h3', if_neg h4'])
  exact loop l.length 0 [] σ' (by omega) (by simp) Fr.rf trivial rfl _ _
