/-! the reference's minute, whole -/
theorem ry_47 {fr : Bool} {r : Nat → Int32} {y : Nat} (hy : r 47 = nI y) : ∀ k, k ≤ 9 → ∃ j, j ≤ k ∧ ry fr r k 47 = nI (y + j) := by
  intro k
  induction k with
  | zero => intro _; exact ⟨0, Nat.le_refl 0, hy⟩
  | succ k ih =>
    intro hk
    obtain ⟨j, hj, e⟩ := ih (by omega)
    unfold ry
    split
    · refine ⟨j + 1, by omega, ?_⟩
      rw [gy_47 (by omega), e, nI_1]; rfl
    · exact ⟨j, by omega, e⟩
theorem rc_hi {c : MC} {q : Nat → Int32} {ys ms : Int32} {i : Nat} (h : i < 18 ∨ 45 ≤ i) : ∀ k, k ≤ 9 → rc c q ys ms k i = q i := by
  intro k
  induction k with
  | zero => intro _; rfl
  | succ k ih =>
    intro hk
    unfold rc
    split
    · rw [upd_ne (by omega), upd_ne (by omega), upd_ne (by omega)]; exact ih (by omega)
    · exact ih (by omega)
theorem rt_0 (q : Nat → Int32) : rt q 0 = q := rfl
theorem rt_1 (q : Nat → Int32) (k : Nat) : rt q (k + 1) = upd (rt q k) k (mn9 (q k + 1)) := by
  funext i
  simp only [rt, upd]
  by_cases h : i = k
  · subst h; rw [if_pos (by omega), if_pos rfl]
  · by_cases h2 : i < k
    · rw [if_pos (by omega), if_neg h, if_pos h2]
    · rw [if_neg (by omega), if_neg h, if_neg h2]
theorem fr_zput {p : Nat → Nat → Bool} {σ : zS} {o : Nat} {f : Nat → Int32} (h : ∀ i, p o i = false → f i = σ o i) : Fr p σ (zput σ o f) := Fr.put h
theorem r_goMinute215 {d : Nat} {σ : zS} {t y : Nat} {c : MC} {fr : Bool} (hc : CKs 215 c σ) (hck : CK (d + 4) 215 c.2.2.2.1 c.2.2.2.2.1 c.2.2.2.2.2 σ) (hfr : σ 214 7 = b2i fr) (ht : σ 215 46 = nI t) (htb : t < 1073741824) (hy : σ 215 47 = nI y) (hyb : y + 9 < 1073741824) (hm : ∀ f, f < c.1 → σ 215 (36 + f) = 0 ∨ σ 215 (36 + f) = 1) {Q : Int32 → zS → Prop}
    (h : ∀ σ', Fr (pR 215) σ σ' → σ' 215 = ms c fr (σ 215) → σ' 214 26 = ysS c fr (σ 215) → σ' 214 27 = cbS c fr (σ 215) → σ' 214 28 = msS c fr (σ 215) → Q 0 σ') :
    ZC (d + 6) 205 [.ref 214, .ref 215] σ Q := by
  obtain ⟨hF, hD, hS, h9⟩ := hc
  refine k_205_0_i214_215 ?_
  simp (disch := omega) only [zup_eq, zput_app, zput_twice, zput_comm, upd_same, nI_1, za2, zA2, zm2, za3, zA3, zm3, za4, zA4, zm4, za9, zA9, zm9, za10, zA10, zm10, za18, zA18, zm18, za27, zA27, zm27, za36, zA36, zm36, za48, zA48, zm48, za288, zA288, zm288, zcl, zinT, upd_ne, upd_eq, zlt, znlt, zl2, zn2_, zl3, zn3_, zl5, zn5_, zl9, zn9_, zl10, zn10_, zl16, zn16_, zl20, zn20_, zl40, zn40_, zl60, zn60_, zl76, zn76_, zl80, zn80_, zl288, zn288_, zl300, zn300_, zneg, Nat.reduceEqDiff, Nat.reduceAdd, ↓reduceIte]
  generalize hr : σ 215 = r at ht hy hm h ⊢
  let U : Int32 → Int32 → Nat → Int32 := fun a b => upd (upd (upd (σ 214) 26 a) 27 0) 28 b
  have hU : ∀ a b i, i ≠ 26 → i ≠ 27 → i ≠ 28 → U a b i = σ 214 i := fun a b i h1 h2 h3 => by
    show upd (upd (upd (σ 214) 26 a) 27 0) 28 b i = _
    rw [upd_ne h3, upd_ne h2, upd_ne h1]
  have hU26 : ∀ a b, U a b 26 = a := fun a b => rfl
  have hU28 : ∀ a b, U a b 28 = b := fun a b => rfl
  have hUa : ∀ a b x, upd (U a b) 26 x = U x b := fun a b x => by
    show upd (upd (upd (upd (σ 214) 26 a) 27 0) 28 b) 26 x = upd (upd (upd (σ 214) 26 x) 27 0) 28 b
    rw [upd_comm _ (i := 26) (j := 28) (by decide), upd_comm _ (i := 26) (j := 27) (by decide), upd_same]
  have hUb : ∀ a b x, upd (U a b) 28 x = U a x := fun a b x => upd_same _ _ _ _
  have loop4 : ∀ (σ1 : zS), σ1 214 1 = nI c.1 → Q 0 (zput σ1 215 (upd (rt (σ1 215) c.1) 46 (σ1 215 46 + 1))) → Z (d + 5) 205 Q 205 [.ref 214, .ref 215, .int (nI t), .int 0] [] σ1 := by
    intro σ1 h1 hq
    have hz : Z (d + 5) 205 Q 205 [.ref 214, .ref 215, .int (nI t), .int (nI 0)] [] (zput σ1 215 (rt (σ1 215) 0)) := by
      refine z_for (F := c.1) (P := fun k => Z (d + 5) 205 Q 205 [.ref 214, .ref 215, .int (nI t), .int (nI k)] [] (zput σ1 215 (rt (σ1 215) k))) (fun k hk ih => ?_) ?_
      · refine k_205_205_i214_215 ?_
        simp (disch := omega) only [zup_eq, zput_app, zput_twice, zput_comm, upd_same, nI_1, za2, zA2, zm2, za3, zA3, zm3, za4, zA4, zm4, za9, zA9, zm9, za10, zA10, zm10, za18, zA18, zm18, za27, zA27, zm27, za36, zA36, zm36, za48, zA48, zm48, za288, zA288, zm288, zcl, zinT, upd_ne, upd_eq, zlt, znlt, zl2, zn2_, zl3, zn3_, zl5, zn5_, zl9, zn9_, zl10, zn10_, zl16, zn16_, zl20, zn20_, zl40, zn40_, zl60, zn60_, zl76, zn76_, zl80, zn80_, zl288, zn288_, zl300, zn300_, zneg, Nat.reduceEqDiff, Nat.reduceAdd, ↓reduceIte, h1, s_min]
        rw [rt_1] at ih
        have e : rt (σ1 215) k k = σ1 215 k := if_neg (by omega)
        rw [e]
        exact ih
      · refine k_205_205_i214_215 ?_
        simp (disch := omega) only [zup_eq, zput_app, zput_twice, zput_comm, upd_same, nI_1, za2, zA2, zm2, za3, zA3, zm3, za4, zA4, zm4, za9, zA9, zm9, za10, zA10, zm10, za18, zA18, zm18, za27, zA27, zm27, za36, zA36, zm36, za48, zA48, zm48, za288, zA288, zm288, zcl, zinT, upd_ne, upd_eq, zlt, znlt, zl2, zn2_, zl3, zn3_, zl5, zn5_, zl9, zn9_, zl10, zn10_, zl16, zn16_, zl20, zn20_, zl40, zn40_, zl60, zn60_, zl76, zn76_, zl80, zn80_, zl288, zn288_, zl300, zn300_, zneg, Nat.reduceEqDiff, Nat.reduceAdd, ↓reduceIte, h1]
        have e : rt (σ1 215) c.1 46 = σ1 215 46 := if_neg (by omega)
        rw [e]
        exact hq
    rw [rt_0, zput_self] at hz
    exact hz
  have loop3 : ∀ (σ1 : zS), Fr (pR 215) σ σ1 → σ1 215 = ry fr r c.1 → σ1 214 26 = ysS c fr r → σ1 214 28 = msS c fr r → σ1 214 27 = 0 → Z (d + 5) 205 Q 140 [.ref 214, .ref 215, .int (nI t), .int (nI 0)] [] σ1 := by
    intro σ1 g1 g2 g3 g4 g5
    refine z_for (F := c.1) (P := fun k => ∀ σ1, Fr (pR 215) σ σ1 → σ1 215 = rc c (ry fr r c.1) (ysS c fr r) (msS c fr r) k → σ1 214 26 = ysS c fr r → σ1 214 28 = msS c fr r → σ1 214 27 = bs (fun f => cb c (rc c (ry fr r c.1) (ysS c fr r) (msS c fr r) f) (ysS c fr r) (msS c fr r) f) k → Z (d + 5) 205 Q 140 [.ref 214, .ref 215, .int (nI t), .int (nI k)] [] σ1) (fun k hk ih => ?_) ?_ σ1 g1 g2 g3 g4 g5
    · intro σ2 f1 f2 f3 f4 f5
      have hcs := CKs.fr (Or.inl rfl) ⟨hF, hD, hS, h9⟩ f1
      have f46 : σ2 215 46 = nI t := by rw [f2, rc_hi (Or.inr (by omega)) k (by omega), (ry_hi c.1 h9).2]; exact ht
      refine k_205_140_i214_215 ?_
      simp (disch := omega) only [hcs.1, zlt, s_hasR, b2i_0, nI_1, za18, zcl, zinT, ↓reduceIte]
      rw [f3]
      cases hz : zb (σ2 215 45 ||| ysS c fr r) k
      · simp only [↓reduceIte]
        by_cases hd : σ2 215 (18 + k) = -1
        · rw [if_pos hd]
          refine r_goCatch215 hcs (fun σ' q => hck σ' (Fr.tr f1 q)) (by omega) f46 htb (fun σ3 e1 e2 e3 e4 e5 => ?_)
          rw [f3, f4] at e2 e5
          have hcb : cb c (σ2 215) (ysS c fr r) (msS c fr r) k = !decide (cz c (σ2 215) (ysS c fr r) (msS c fr r) k = -1) := by
            unfold cb
            rw [hz, hd]; simp
          have h46 : ry fr r c.1 46 = nI t := by rw [(ry_hi c.1 h9).2]; exact ht
          refine ih σ3 (Fr.tr f1 e1) ?_ (e3.trans f3) (e4.trans f4) ?_
          · rw [e2]
            conv => rhs; unfold rc
            rw [← f2, hcb, h46]
            by_cases hq : cz c (σ2 215) (ysS c fr r) (msS c fr r) k = -1 <;> simp [hq]
          · rw [e5, f5]
            conv => rhs; unfold bs
            rw [← f2, hcb]
            by_cases hq : cz c (σ2 215) (ysS c fr r) (msS c fr r) k = -1 <;> simp [hq]
        · rw [if_neg hd]
          have hcb : cb c (σ2 215) (ysS c fr r) (msS c fr r) k = false := by
            unfold cb
            simp [hd]
          refine ih σ2 f1 ?_ f3 f4 ?_
          · conv => rhs; unfold rc
            rw [← f2, hcb]; simp [f2]
          · rw [f5]
            conv => rhs; unfold bs
            rw [← f2, hcb]; simp
      · simp only [Bool.true_eq_false, ↓reduceIte]
        have hcb : cb c (σ2 215) (ysS c fr r) (msS c fr r) k = false := by
          unfold cb
          simp [hz]
        refine ih σ2 f1 ?_ f3 f4 ?_
        · conv => rhs; unfold rc
          rw [← f2, hcb]; simp [f2]
        · rw [f5]
          conv => rhs; unfold bs
          rw [← f2, hcb]; simp
    · intro σ2 f1 f2 f3 f4 f5
      have hcs := CKs.fr (Or.inl rfl) ⟨hF, hD, hS, h9⟩ f1
      have f7 : σ2 214 7 = b2i fr := (f1 214 7 (by decide)).trans hfr
      have hR3 : σ2 215 = r3 c fr r := f2
      have f46 : σ2 215 46 = nI t := by rw [f2, rc_hi (Or.inr (by omega)) c.1 (by omega), (ry_hi c.1 h9).2]; exact ht
      have fin : ∀ v : Nat → Int32, v = ms c fr r → Q 0 (zput σ2 215 v) := by
        intro v hv
        refine h _ ?_ ?_ ?_ ?_ ?_
        · refine Fr.tr f1 (Fr.put (fun i q => ?_))
          simp [pR] at q
        · rw [hv]; simp only [zput_app, ↓reduceIte]
        · simp only [zput_app, Nat.reduceEqDiff, ↓reduceIte]; exact f3
        · simp only [zput_app, Nat.reduceEqDiff, ↓reduceIte]; exact f5
        · simp only [zput_app, Nat.reduceEqDiff, ↓reduceIte]; exact f4
      refine k_205_140_i214_215 ?_
      simp (disch := omega) only [hcs.1, znlt, ↓reduceIte, f7, b2i_0]
      by_cases hz : zrem (nI t + 1) 10 = 0
      · rw [if_pos hz]
        cases hb : fr
        · simp only [↓reduceIte]
          refine loop4 σ2 hcs.1 (fin _ ?_)
          unfold ms
          rw [if_pos ⟨by rw [ht]; exact hz, hb⟩, f46, ht, hR3]
        · simp only [Bool.true_eq_false, ↓reduceIte]
          refine fin _ ?_
          unfold ms
          rw [if_neg (fun q => by rw [hb] at q; cases q.2), ← hR3, f46, ht]
      · rw [if_neg hz]
        refine fin _ ?_
        unfold ms
        rw [if_neg (fun q => hz (by rw [← ht]; exact q.1)), ← hR3, f46, ht]
  have loop2 : Z (d + 5) 205 Q 106 [.ref 214, .ref 215, .int (nI t), .int (nI 0)] [] (zput (zput σ 214 (U (ysS c fr r) 0)) 215 (fx fr r 0 c.1 r)) := by
    refine z_for (F := c.1) (P := fun k => Z (d + 5) 205 Q 106 [.ref 214, .ref 215, .int (nI t), .int (nI k)] [] (zput (zput σ 214 (U (ysS c fr r) (bs (mw fr r) k))) 215 (fx fr r k c.1 (ry fr r k)))) (fun k hk ih => ?_) ?_
    · refine k_205_106_i214_215 ?_
      have hyk : zb (ysS c fr r) k = yw fr r k := by
        unfold ysS
        rw [zb_bs (by omega) (by omega)]; simp [hk]
      simp (disch := omega) only [zup_eq, zput_app, zput_twice, zput_comm, upd_same, nI_1, za2, zA2, zm2, za3, zA3, zm3, za4, zA4, zm4, za9, zA9, zm9, za10, zA10, zm10, za18, zA18, zm18, za27, zA27, zm27, za36, zA36, zm36, za48, zA48, zm48, za288, zA288, zm288, zcl, zinT, upd_ne, upd_eq, zlt, znlt, zl2, zn2_, zl3, zn3_, zl5, zn5_, zl9, zn9_, zl10, zn10_, zl16, zn16_, zl20, zn20_, zl40, zn40_, zl60, zn60_, zl76, zn76_, zl80, zn80_, zl288, zn288_, zl300, zn300_, zneg, Nat.reduceEqDiff, Nat.reduceAdd, ↓reduceIte, hU, hU26, hF, s_hasR, b2i_0, hyk]
      cases hq : yw fr r k
      · simp only [↓reduceIte]
        have htc : tc fr r k = false := by
          cases htc : tc fr r k
          · rfl
          · rw [tc_yw htc] at hq; cases hq
        have e1 : bs (mw fr r) (k + 1) = bs (mw fr r) k := by
          conv => lhs; unfold bs
          rw [show mw fr r k = false by unfold mw; rw [hq]; rfl]; rfl
        have e2 : ry fr r (k + 1) = ry fr r k := by
          conv => lhs; unfold ry
          rw [hq]; rfl
        rw [e1, e2, ← fx_beg htc] at ih
        exact ih
      · simp only [Bool.true_eq_false, ↓reduceIte]
        obtain ⟨j, hj, ej⟩ := ry_47 (fr := fr) hy k (by omega)
        rw [r_goYawn215 (y := y + j) (fr := fr) (by omega) (by simp (disch := omega) only [zup_eq, zput_app, zput_twice, zput_comm, upd_same, nI_1, za2, zA2, zm2, za3, zA3, zm3, za4, zA4, zm4, za9, zA9, zm9, za10, zA10, zm10, za18, zA18, zm18, za27, zA27, zm27, za36, zA36, zm36, za48, zA48, zm48, za288, zA288, zm288, zcl, zinT, upd_ne, upd_eq, zlt, znlt, zl2, zn2_, zl3, zn3_, zl5, zn5_, zl9, zn9_, zl10, zn10_, zl16, zn16_, zl20, zn20_, zl40, zn40_, zl60, zn60_, zl76, zn76_, zl80, zn80_, zl288, zn288_, zl300, zn300_, zneg, Nat.reduceEqDiff, Nat.reduceAdd, ↓reduceIte, hU]; exact hfr) (by simp (disch := omega) only [zup_eq, zput_app, zput_twice, zput_comm, upd_same, nI_1, za2, zA2, zm2, za3, zA3, zm3, za4, zA4, zm4, za9, zA9, zm9, za10, zA10, zm10, za18, zA18, zm18, za27, zA27, zm27, za36, zA36, zm36, za48, zA48, zm48, za288, zA288, zm288, zcl, zinT, upd_ne, upd_eq, zlt, znlt, zl2, zn2_, zl3, zn3_, zl5, zn5_, zl9, zn9_, zl10, zn10_, zl16, zn16_, zl20, zn20_, zl40, zn40_, zl60, zn60_, zl76, zn76_, zl80, zn80_, zl288, zn288_, zl300, zn300_, zneg, Nat.reduceEqDiff, Nat.reduceAdd, ↓reduceIte]; rw [fx_out (Or.inr (by omega))]; exact ej) (by omega)]
        simp (disch := omega) only [zup_eq, zput_app, zput_twice, zput_comm, upd_same, nI_1, za2, zA2, zm2, za3, zA3, zm3, za4, zA4, zm4, za9, zA9, zm9, za10, zA10, zm10, za18, zA18, zm18, za27, zA27, zm27, za36, zA36, zm36, za48, zA48, zm48, za288, zA288, zm288, zcl, zinT, upd_ne, upd_eq, zlt, znlt, zl2, zn2_, zl3, zn3_, zl5, zn5_, zl9, zn9_, zl10, zn10_, zl16, zn16_, zl20, zn20_, zl40, zn40_, zl60, zn60_, zl76, zn76_, zl80, zn80_, zl288, zn288_, zl300, zn300_, zneg, Nat.reduceEqDiff, Nat.reduceAdd, ↓reduceIte, (fun s => zput_comm s (show 214 < 215 by decide)), hU28, hUb]
        have e3 : fx fr r k c.1 (ry fr r k) (36 + k) = r (36 + k) := by
          rw [fx_out (Or.inr (by omega))]; exact (ry_old k (by omega) k (Nat.le_refl k) (by omega)).2.2.2.2
        have e1 : bs (mw fr r) (k + 1) = bs (mw fr r) k ||| zshl (r (36 + k)) (nI k) := by
          conv => lhs; unfold bs
          unfold mw
          rw [hq]
          rcases hm k hk with e | e
          · rw [e, zshl0 k (by omega), Int32.or_zero]; rfl
          · rw [e]; rfl
        have e2 : ry fr r (k + 1) = gy fr (nI t) (ry fr r k) k := by
          conv => lhs; unfold ry
          rw [hq, ht]; rfl
        rw [e3, fx_gy (by omega) h9, ← e1, ← e2]
        exact ih
    · refine k_205_106_i214_215 ?_
      simp (disch := omega) only [zup_eq, zput_app, zput_twice, zput_comm, upd_same, nI_1, za2, zA2, zm2, za3, zA3, zm3, za4, zA4, zm4, za9, zA9, zm9, za10, zA10, zm10, za18, zA18, zm18, za27, zA27, zm27, za36, zA36, zm36, za48, zA48, zm48, za288, zA288, zm288, zcl, zinT, upd_ne, upd_eq, zlt, znlt, zl2, zn2_, zl3, zn3_, zl5, zn5_, zl9, zn9_, zl10, zn10_, zl16, zn16_, zl20, zn20_, zl40, zn40_, zl60, zn60_, zl76, zn76_, zl80, zn80_, zl288, zn288_, zl300, zn300_, zneg, Nat.reduceEqDiff, Nat.reduceAdd, ↓reduceIte, hU, hF]
      refine loop3 _ ?_ ?_ ?_ ?_ ?_
      · refine Fr.tr (Fr.put (o := 214) (f := U (ysS c fr r) (bs (mw fr r) c.1)) (fun i q => ?_)) (Fr.put (fun i q => ?_))
        · refine hU _ _ i ?_ ?_ ?_ <;> (rintro rfl; simp [pR] at q)
        · simp [pR] at q
      · simp only [zput_app, ↓reduceIte]; exact fx_none
      · simp only [zput_app, Nat.reduceEqDiff, ↓reduceIte]; exact hU26 _ _
      · simp only [zput_app, Nat.reduceEqDiff, ↓reduceIte]; exact hU28 _ _
      · simp only [zput_app, Nat.reduceEqDiff, ↓reduceIte]; rfl
  have loop1 : Z (d + 5) 205 Q 22 [.ref 214, .ref 215, .int (nI t), .int (nI 0)] [] (zput (zput σ 214 (U 0 0)) 215 (fx fr r 0 0 r)) := by
    refine z_for (F := c.1) (P := fun k => Z (d + 5) 205 Q 22 [.ref 214, .ref 215, .int (nI t), .int (nI k)] [] (zput (zput σ 214 (U (bs (yw fr r) k) 0)) 215 (fx fr r 0 k r))) (fun k hk ih => ?_) ?_
    · refine k_205_22_i214_215 ?_
      have e1 : ∀ i, i < 18 ∨ 18 + k ≤ i → fx fr r 0 k r i = r i := fun i hi => fx_out (by omega)
      simp (disch := omega) only [zup_eq, zput_app, zput_twice, zput_comm, upd_same, nI_1, za2, zA2, zm2, za3, zA3, zm3, za4, zA4, zm4, za9, zA9, zm9, za10, zA10, zm10, za18, zA18, zm18, za27, zA27, zm27, za36, zA36, zm36, za48, zA48, zm48, za288, zA288, zm288, zcl, zinT, upd_ne, upd_eq, zlt, znlt, zl2, zn2_, zl3, zn3_, zl5, zn5_, zl9, zn9_, zl10, zn10_, zl16, zn16_, zl20, zn20_, zl40, zn40_, zl60, zn60_, zl76, zn76_, zl80, zn80_, zl288, zn288_, zl300, zn300_, zneg, Nat.reduceEqDiff, Nat.reduceAdd, ↓reduceIte, hU, hU26, hUa, hF, hfr, s_hasR, b2i_0, e1]
      have e5 : bs (yw fr r) (k + 1) = if yw fr r k = true then bs (yw fr r) k ||| zshl 1 (nI k) else bs (yw fr r) k := rfl
      cases hz : zb (r 45) k
      · cases hfb : fr
        · subst hfb
          by_cases q1 : r k = 9
          · by_cases q2 : r (18 + k) = -1
            · have hy1 : yw false r k = true := by unfold yw; simp [hz, q1, q2]
              have ht1 : tc false r k = true := by unfold tc; simp [hz, q1, q2]
              rw [e5, hy1, ← fx_end (Nat.zero_le k) ht1, ht] at ih
              simp only [q1, q2, ↓reduceIte, (fun s => zput_comm s (show 214 < 215 by decide)), zput_twice] at ih ⊢
              exact ih
            · have ht1 : tc false r k = false := by unfold tc; simp [q2]
              by_cases q3 : r (18 + k) = nI t
              · have hy1 : yw false r k = true := by unfold yw; simp [hz, ht, q3]
                rw [e5, hy1, ← fx_endn ht1] at ih
                rw [q3] at q2
                simp only [q1, q2, q3, ↓reduceIte, (fun s => zput_comm s (show 214 < 215 by decide)), zput_twice] at ih ⊢
                exact ih
              · have hy1 : yw false r k = false := by unfold yw; simp [hz, ht, q2, q3]
                rw [e5, hy1, ← fx_endn ht1] at ih
                simp only [q1, q2, q3, ↓reduceIte, (fun s => zput_comm s (show 214 < 215 by decide)), zput_twice] at ih ⊢
                exact ih
          · have ht1 : tc false r k = false := by unfold tc; simp [q1]
            by_cases q3 : r (18 + k) = nI t
            · have hy1 : yw false r k = true := by unfold yw; simp [hz, ht, q3]
              rw [e5, hy1, ← fx_endn ht1] at ih
              simp only [q1, q3, ↓reduceIte, (fun s => zput_comm s (show 214 < 215 by decide)), zput_twice] at ih ⊢
              exact ih
            · have hy1 : yw false r k = false := by unfold yw; simp [hz, ht, q1, q3]
              rw [e5, hy1, ← fx_endn ht1] at ih
              simp only [q1, q3, ↓reduceIte, (fun s => zput_comm s (show 214 < 215 by decide)), zput_twice] at ih ⊢
              exact ih
        · subst hfb
          have ht1 : tc true r k = false := by unfold tc; simp
          by_cases q3 : r (18 + k) = nI t
          · have hy1 : yw true r k = true := by unfold yw; simp [hz, ht, q3]
            rw [e5, hy1, ← fx_endn ht1] at ih
            simp only [q3, Bool.true_eq_false, ↓reduceIte, (fun s => zput_comm s (show 214 < 215 by decide)), zput_twice] at ih ⊢
            exact ih
          · have hy1 : yw true r k = false := by unfold yw; simp [ht, q3]
            rw [e5, hy1, ← fx_endn ht1] at ih
            simp only [q3, Bool.true_eq_false, ↓reduceIte, (fun s => zput_comm s (show 214 < 215 by decide)), zput_twice] at ih ⊢
            exact ih
      · have hy1 : yw fr r k = false := by unfold yw; simp [hz]
        have ht1 : tc fr r k = false := by unfold tc; simp [hz]
        rw [e5, hy1, ← fx_endn ht1] at ih
        simp only [Bool.true_eq_false, ↓reduceIte]
        exact ih
    · refine k_205_22_i214_215 ?_
      simp (disch := omega) only [zup_eq, zput_app, zput_twice, zput_comm, upd_same, nI_1, za2, zA2, zm2, za3, zA3, zm3, za4, zA4, zm4, za9, zA9, zm9, za10, zA10, zm10, za18, zA18, zm18, za27, zA27, zm27, za36, zA36, zm36, za48, zA48, zm48, za288, zA288, zm288, zcl, zinT, upd_ne, upd_eq, zlt, znlt, zl2, zn2_, zl3, zn3_, zl5, zn5_, zl9, zn9_, zl10, zn10_, zl16, zn16_, zl20, zn20_, zl40, zn40_, zl60, zn60_, zl76, zn76_, zl80, zn80_, zl288, zn288_, zl300, zn300_, zneg, Nat.reduceEqDiff, Nat.reduceAdd, ↓reduceIte, hU, hF]
      exact loop2
  rw [fx_none, zput_self2 (by simp only [zput_app, Nat.reduceEqDiff, ↓reduceIte]; exact hr.symm)] at loop1
  rw [ht]
  exact loop1
theorem r_goMinute226 {d : Nat} {σ : zS} {t y : Nat} {c : MC} {fr : Bool} (hc : CKs 226 c σ) (hck : CK (d + 4) 226 c.2.2.2.1 c.2.2.2.2.1 c.2.2.2.2.2 σ) (hfr : σ 214 7 = b2i fr) (ht : σ 226 46 = nI t) (htb : t < 1073741824) (hy : σ 226 47 = nI y) (hyb : y + 9 < 1073741824) (hm : ∀ f, f < c.1 → σ 226 (36 + f) = 0 ∨ σ 226 (36 + f) = 1) {Q : Int32 → zS → Prop}
    (h : ∀ σ', Fr (pR 226) σ σ' → σ' 226 = ms c fr (σ 226) → σ' 214 26 = ysS c fr (σ 226) → σ' 214 27 = cbS c fr (σ 226) → σ' 214 28 = msS c fr (σ 226) → Q 0 σ') :
    ZC (d + 6) 205 [.ref 214, .ref 226] σ Q := by
  obtain ⟨hF, hD, hS, h9⟩ := hc
  refine k_205_0_i214_226 ?_
  simp (disch := omega) only [zup_eq, zput_app, zput_twice, zput_comm, upd_same, nI_1, za2, zA2, zm2, za3, zA3, zm3, za4, zA4, zm4, za9, zA9, zm9, za10, zA10, zm10, za18, zA18, zm18, za27, zA27, zm27, za36, zA36, zm36, za48, zA48, zm48, za288, zA288, zm288, zcl, zinT, upd_ne, upd_eq, zlt, znlt, zl2, zn2_, zl3, zn3_, zl5, zn5_, zl9, zn9_, zl10, zn10_, zl16, zn16_, zl20, zn20_, zl40, zn40_, zl60, zn60_, zl76, zn76_, zl80, zn80_, zl288, zn288_, zl300, zn300_, zneg, Nat.reduceEqDiff, Nat.reduceAdd, ↓reduceIte]
  generalize hr : σ 226 = r at ht hy hm h ⊢
  let U : Int32 → Int32 → Nat → Int32 := fun a b => upd (upd (upd (σ 214) 26 a) 27 0) 28 b
  have hU : ∀ a b i, i ≠ 26 → i ≠ 27 → i ≠ 28 → U a b i = σ 214 i := fun a b i h1 h2 h3 => by
    show upd (upd (upd (σ 214) 26 a) 27 0) 28 b i = _
    rw [upd_ne h3, upd_ne h2, upd_ne h1]
  have hU26 : ∀ a b, U a b 26 = a := fun a b => rfl
  have hU28 : ∀ a b, U a b 28 = b := fun a b => rfl
  have hUa : ∀ a b x, upd (U a b) 26 x = U x b := fun a b x => by
    show upd (upd (upd (upd (σ 214) 26 a) 27 0) 28 b) 26 x = upd (upd (upd (σ 214) 26 x) 27 0) 28 b
    rw [upd_comm _ (i := 26) (j := 28) (by decide), upd_comm _ (i := 26) (j := 27) (by decide), upd_same]
  have hUb : ∀ a b x, upd (U a b) 28 x = U a x := fun a b x => upd_same _ _ _ _
  have loop4 : ∀ (σ1 : zS), σ1 214 1 = nI c.1 → Q 0 (zput σ1 226 (upd (rt (σ1 226) c.1) 46 (σ1 226 46 + 1))) → Z (d + 5) 205 Q 205 [.ref 214, .ref 226, .int (nI t), .int 0] [] σ1 := by
    intro σ1 h1 hq
    have hz : Z (d + 5) 205 Q 205 [.ref 214, .ref 226, .int (nI t), .int (nI 0)] [] (zput σ1 226 (rt (σ1 226) 0)) := by
      refine z_for (F := c.1) (P := fun k => Z (d + 5) 205 Q 205 [.ref 214, .ref 226, .int (nI t), .int (nI k)] [] (zput σ1 226 (rt (σ1 226) k))) (fun k hk ih => ?_) ?_
      · refine k_205_205_i214_226 ?_
        simp (disch := omega) only [zup_eq, zput_app, zput_twice, zput_comm, upd_same, nI_1, za2, zA2, zm2, za3, zA3, zm3, za4, zA4, zm4, za9, zA9, zm9, za10, zA10, zm10, za18, zA18, zm18, za27, zA27, zm27, za36, zA36, zm36, za48, zA48, zm48, za288, zA288, zm288, zcl, zinT, upd_ne, upd_eq, zlt, znlt, zl2, zn2_, zl3, zn3_, zl5, zn5_, zl9, zn9_, zl10, zn10_, zl16, zn16_, zl20, zn20_, zl40, zn40_, zl60, zn60_, zl76, zn76_, zl80, zn80_, zl288, zn288_, zl300, zn300_, zneg, Nat.reduceEqDiff, Nat.reduceAdd, ↓reduceIte, h1, s_min]
        rw [rt_1] at ih
        have e : rt (σ1 226) k k = σ1 226 k := if_neg (by omega)
        rw [e]
        exact ih
      · refine k_205_205_i214_226 ?_
        simp (disch := omega) only [zup_eq, zput_app, zput_twice, zput_comm, upd_same, nI_1, za2, zA2, zm2, za3, zA3, zm3, za4, zA4, zm4, za9, zA9, zm9, za10, zA10, zm10, za18, zA18, zm18, za27, zA27, zm27, za36, zA36, zm36, za48, zA48, zm48, za288, zA288, zm288, zcl, zinT, upd_ne, upd_eq, zlt, znlt, zl2, zn2_, zl3, zn3_, zl5, zn5_, zl9, zn9_, zl10, zn10_, zl16, zn16_, zl20, zn20_, zl40, zn40_, zl60, zn60_, zl76, zn76_, zl80, zn80_, zl288, zn288_, zl300, zn300_, zneg, Nat.reduceEqDiff, Nat.reduceAdd, ↓reduceIte, h1]
        have e : rt (σ1 226) c.1 46 = σ1 226 46 := if_neg (by omega)
        rw [e]
        exact hq
    rw [rt_0, zput_self] at hz
    exact hz
  have loop3 : ∀ (σ1 : zS), Fr (pR 226) σ σ1 → σ1 226 = ry fr r c.1 → σ1 214 26 = ysS c fr r → σ1 214 28 = msS c fr r → σ1 214 27 = 0 → Z (d + 5) 205 Q 140 [.ref 214, .ref 226, .int (nI t), .int (nI 0)] [] σ1 := by
    intro σ1 g1 g2 g3 g4 g5
    refine z_for (F := c.1) (P := fun k => ∀ σ1, Fr (pR 226) σ σ1 → σ1 226 = rc c (ry fr r c.1) (ysS c fr r) (msS c fr r) k → σ1 214 26 = ysS c fr r → σ1 214 28 = msS c fr r → σ1 214 27 = bs (fun f => cb c (rc c (ry fr r c.1) (ysS c fr r) (msS c fr r) f) (ysS c fr r) (msS c fr r) f) k → Z (d + 5) 205 Q 140 [.ref 214, .ref 226, .int (nI t), .int (nI k)] [] σ1) (fun k hk ih => ?_) ?_ σ1 g1 g2 g3 g4 g5
    · intro σ2 f1 f2 f3 f4 f5
      have hcs := CKs.fr (Or.inr rfl) ⟨hF, hD, hS, h9⟩ f1
      have f46 : σ2 226 46 = nI t := by rw [f2, rc_hi (Or.inr (by omega)) k (by omega), (ry_hi c.1 h9).2]; exact ht
      refine k_205_140_i214_226 ?_
      simp (disch := omega) only [hcs.1, zlt, s_hasR, b2i_0, nI_1, za18, zcl, zinT, ↓reduceIte]
      rw [f3]
      cases hz : zb (σ2 226 45 ||| ysS c fr r) k
      · simp only [↓reduceIte]
        by_cases hd : σ2 226 (18 + k) = -1
        · rw [if_pos hd]
          refine r_goCatch226 hcs (fun σ' q => hck σ' (Fr.tr f1 q)) (by omega) f46 htb (fun σ3 e1 e2 e3 e4 e5 => ?_)
          rw [f3, f4] at e2 e5
          have hcb : cb c (σ2 226) (ysS c fr r) (msS c fr r) k = !decide (cz c (σ2 226) (ysS c fr r) (msS c fr r) k = -1) := by
            unfold cb
            rw [hz, hd]; simp
          have h46 : ry fr r c.1 46 = nI t := by rw [(ry_hi c.1 h9).2]; exact ht
          refine ih σ3 (Fr.tr f1 e1) ?_ (e3.trans f3) (e4.trans f4) ?_
          · rw [e2]
            conv => rhs; unfold rc
            rw [← f2, hcb, h46]
            by_cases hq : cz c (σ2 226) (ysS c fr r) (msS c fr r) k = -1 <;> simp [hq]
          · rw [e5, f5]
            conv => rhs; unfold bs
            rw [← f2, hcb]
            by_cases hq : cz c (σ2 226) (ysS c fr r) (msS c fr r) k = -1 <;> simp [hq]
        · rw [if_neg hd]
          have hcb : cb c (σ2 226) (ysS c fr r) (msS c fr r) k = false := by
            unfold cb
            simp [hd]
          refine ih σ2 f1 ?_ f3 f4 ?_
          · conv => rhs; unfold rc
            rw [← f2, hcb]; simp [f2]
          · rw [f5]
            conv => rhs; unfold bs
            rw [← f2, hcb]; simp
      · simp only [Bool.true_eq_false, ↓reduceIte]
        have hcb : cb c (σ2 226) (ysS c fr r) (msS c fr r) k = false := by
          unfold cb
          simp [hz]
        refine ih σ2 f1 ?_ f3 f4 ?_
        · conv => rhs; unfold rc
          rw [← f2, hcb]; simp [f2]
        · rw [f5]
          conv => rhs; unfold bs
          rw [← f2, hcb]; simp
    · intro σ2 f1 f2 f3 f4 f5
      have hcs := CKs.fr (Or.inr rfl) ⟨hF, hD, hS, h9⟩ f1
      have f7 : σ2 214 7 = b2i fr := (f1 214 7 (by decide)).trans hfr
      have hR3 : σ2 226 = r3 c fr r := f2
      have f46 : σ2 226 46 = nI t := by rw [f2, rc_hi (Or.inr (by omega)) c.1 (by omega), (ry_hi c.1 h9).2]; exact ht
      have fin : ∀ v : Nat → Int32, v = ms c fr r → Q 0 (zput σ2 226 v) := by
        intro v hv
        refine h _ ?_ ?_ ?_ ?_ ?_
        · refine Fr.tr f1 (Fr.put (fun i q => ?_))
          simp [pR] at q
        · rw [hv]; simp only [zput_app, ↓reduceIte]
        · simp only [zput_app, Nat.reduceEqDiff, ↓reduceIte]; exact f3
        · simp only [zput_app, Nat.reduceEqDiff, ↓reduceIte]; exact f5
        · simp only [zput_app, Nat.reduceEqDiff, ↓reduceIte]; exact f4
      refine k_205_140_i214_226 ?_
      simp (disch := omega) only [hcs.1, znlt, ↓reduceIte, f7, b2i_0]
      by_cases hz : zrem (nI t + 1) 10 = 0
      · rw [if_pos hz]
        cases hb : fr
        · simp only [↓reduceIte]
          refine loop4 σ2 hcs.1 (fin _ ?_)
          unfold ms
          rw [if_pos ⟨by rw [ht]; exact hz, hb⟩, f46, ht, hR3]
        · simp only [Bool.true_eq_false, ↓reduceIte]
          refine fin _ ?_
          unfold ms
          rw [if_neg (fun q => by rw [hb] at q; cases q.2), ← hR3, f46, ht]
      · rw [if_neg hz]
        refine fin _ ?_
        unfold ms
        rw [if_neg (fun q => hz (by rw [← ht]; exact q.1)), ← hR3, f46, ht]
  have loop2 : Z (d + 5) 205 Q 106 [.ref 214, .ref 226, .int (nI t), .int (nI 0)] [] (zput (zput σ 214 (U (ysS c fr r) 0)) 226 (fx fr r 0 c.1 r)) := by
    refine z_for (F := c.1) (P := fun k => Z (d + 5) 205 Q 106 [.ref 214, .ref 226, .int (nI t), .int (nI k)] [] (zput (zput σ 214 (U (ysS c fr r) (bs (mw fr r) k))) 226 (fx fr r k c.1 (ry fr r k)))) (fun k hk ih => ?_) ?_
    · refine k_205_106_i214_226 ?_
      have hyk : zb (ysS c fr r) k = yw fr r k := by
        unfold ysS
        rw [zb_bs (by omega) (by omega)]; simp [hk]
      simp (disch := omega) only [zup_eq, zput_app, zput_twice, zput_comm, upd_same, nI_1, za2, zA2, zm2, za3, zA3, zm3, za4, zA4, zm4, za9, zA9, zm9, za10, zA10, zm10, za18, zA18, zm18, za27, zA27, zm27, za36, zA36, zm36, za48, zA48, zm48, za288, zA288, zm288, zcl, zinT, upd_ne, upd_eq, zlt, znlt, zl2, zn2_, zl3, zn3_, zl5, zn5_, zl9, zn9_, zl10, zn10_, zl16, zn16_, zl20, zn20_, zl40, zn40_, zl60, zn60_, zl76, zn76_, zl80, zn80_, zl288, zn288_, zl300, zn300_, zneg, Nat.reduceEqDiff, Nat.reduceAdd, ↓reduceIte, hU, hU26, hF, s_hasR, b2i_0, hyk]
      cases hq : yw fr r k
      · simp only [↓reduceIte]
        have htc : tc fr r k = false := by
          cases htc : tc fr r k
          · rfl
          · rw [tc_yw htc] at hq; cases hq
        have e1 : bs (mw fr r) (k + 1) = bs (mw fr r) k := by
          conv => lhs; unfold bs
          rw [show mw fr r k = false by unfold mw; rw [hq]; rfl]; rfl
        have e2 : ry fr r (k + 1) = ry fr r k := by
          conv => lhs; unfold ry
          rw [hq]; rfl
        rw [e1, e2, ← fx_beg htc] at ih
        exact ih
      · simp only [Bool.true_eq_false, ↓reduceIte]
        obtain ⟨j, hj, ej⟩ := ry_47 (fr := fr) hy k (by omega)
        rw [r_goYawn226 (y := y + j) (fr := fr) (by omega) (by simp (disch := omega) only [zup_eq, zput_app, zput_twice, zput_comm, upd_same, nI_1, za2, zA2, zm2, za3, zA3, zm3, za4, zA4, zm4, za9, zA9, zm9, za10, zA10, zm10, za18, zA18, zm18, za27, zA27, zm27, za36, zA36, zm36, za48, zA48, zm48, za288, zA288, zm288, zcl, zinT, upd_ne, upd_eq, zlt, znlt, zl2, zn2_, zl3, zn3_, zl5, zn5_, zl9, zn9_, zl10, zn10_, zl16, zn16_, zl20, zn20_, zl40, zn40_, zl60, zn60_, zl76, zn76_, zl80, zn80_, zl288, zn288_, zl300, zn300_, zneg, Nat.reduceEqDiff, Nat.reduceAdd, ↓reduceIte, hU]; exact hfr) (by simp (disch := omega) only [zup_eq, zput_app, zput_twice, zput_comm, upd_same, nI_1, za2, zA2, zm2, za3, zA3, zm3, za4, zA4, zm4, za9, zA9, zm9, za10, zA10, zm10, za18, zA18, zm18, za27, zA27, zm27, za36, zA36, zm36, za48, zA48, zm48, za288, zA288, zm288, zcl, zinT, upd_ne, upd_eq, zlt, znlt, zl2, zn2_, zl3, zn3_, zl5, zn5_, zl9, zn9_, zl10, zn10_, zl16, zn16_, zl20, zn20_, zl40, zn40_, zl60, zn60_, zl76, zn76_, zl80, zn80_, zl288, zn288_, zl300, zn300_, zneg, Nat.reduceEqDiff, Nat.reduceAdd, ↓reduceIte]; rw [fx_out (Or.inr (by omega))]; exact ej) (by omega)]
        simp (disch := omega) only [zup_eq, zput_app, zput_twice, zput_comm, upd_same, nI_1, za2, zA2, zm2, za3, zA3, zm3, za4, zA4, zm4, za9, zA9, zm9, za10, zA10, zm10, za18, zA18, zm18, za27, zA27, zm27, za36, zA36, zm36, za48, zA48, zm48, za288, zA288, zm288, zcl, zinT, upd_ne, upd_eq, zlt, znlt, zl2, zn2_, zl3, zn3_, zl5, zn5_, zl9, zn9_, zl10, zn10_, zl16, zn16_, zl20, zn20_, zl40, zn40_, zl60, zn60_, zl76, zn76_, zl80, zn80_, zl288, zn288_, zl300, zn300_, zneg, Nat.reduceEqDiff, Nat.reduceAdd, ↓reduceIte, (fun s => zput_comm s (show 214 < 226 by decide)), hU28, hUb]
        have e3 : fx fr r k c.1 (ry fr r k) (36 + k) = r (36 + k) := by
          rw [fx_out (Or.inr (by omega))]; exact (ry_old k (by omega) k (Nat.le_refl k) (by omega)).2.2.2.2
        have e1 : bs (mw fr r) (k + 1) = bs (mw fr r) k ||| zshl (r (36 + k)) (nI k) := by
          conv => lhs; unfold bs
          unfold mw
          rw [hq]
          rcases hm k hk with e | e
          · rw [e, zshl0 k (by omega), Int32.or_zero]; rfl
          · rw [e]; rfl
        have e2 : ry fr r (k + 1) = gy fr (nI t) (ry fr r k) k := by
          conv => lhs; unfold ry
          rw [hq, ht]; rfl
        rw [e3, fx_gy (by omega) h9, ← e1, ← e2]
        exact ih
    · refine k_205_106_i214_226 ?_
      simp (disch := omega) only [zup_eq, zput_app, zput_twice, zput_comm, upd_same, nI_1, za2, zA2, zm2, za3, zA3, zm3, za4, zA4, zm4, za9, zA9, zm9, za10, zA10, zm10, za18, zA18, zm18, za27, zA27, zm27, za36, zA36, zm36, za48, zA48, zm48, za288, zA288, zm288, zcl, zinT, upd_ne, upd_eq, zlt, znlt, zl2, zn2_, zl3, zn3_, zl5, zn5_, zl9, zn9_, zl10, zn10_, zl16, zn16_, zl20, zn20_, zl40, zn40_, zl60, zn60_, zl76, zn76_, zl80, zn80_, zl288, zn288_, zl300, zn300_, zneg, Nat.reduceEqDiff, Nat.reduceAdd, ↓reduceIte, hU, hF]
      refine loop3 _ ?_ ?_ ?_ ?_ ?_
      · refine Fr.tr (Fr.put (o := 214) (f := U (ysS c fr r) (bs (mw fr r) c.1)) (fun i q => ?_)) (Fr.put (fun i q => ?_))
        · refine hU _ _ i ?_ ?_ ?_ <;> (rintro rfl; simp [pR] at q)
        · simp [pR] at q
      · simp only [zput_app, ↓reduceIte]; exact fx_none
      · simp only [zput_app, Nat.reduceEqDiff, ↓reduceIte]; exact hU26 _ _
      · simp only [zput_app, Nat.reduceEqDiff, ↓reduceIte]; exact hU28 _ _
      · simp only [zput_app, Nat.reduceEqDiff, ↓reduceIte]; rfl
  have loop1 : Z (d + 5) 205 Q 22 [.ref 214, .ref 226, .int (nI t), .int (nI 0)] [] (zput (zput σ 214 (U 0 0)) 226 (fx fr r 0 0 r)) := by
    refine z_for (F := c.1) (P := fun k => Z (d + 5) 205 Q 22 [.ref 214, .ref 226, .int (nI t), .int (nI k)] [] (zput (zput σ 214 (U (bs (yw fr r) k) 0)) 226 (fx fr r 0 k r))) (fun k hk ih => ?_) ?_
    · refine k_205_22_i214_226 ?_
      have e1 : ∀ i, i < 18 ∨ 18 + k ≤ i → fx fr r 0 k r i = r i := fun i hi => fx_out (by omega)
      simp (disch := omega) only [zup_eq, zput_app, zput_twice, zput_comm, upd_same, nI_1, za2, zA2, zm2, za3, zA3, zm3, za4, zA4, zm4, za9, zA9, zm9, za10, zA10, zm10, za18, zA18, zm18, za27, zA27, zm27, za36, zA36, zm36, za48, zA48, zm48, za288, zA288, zm288, zcl, zinT, upd_ne, upd_eq, zlt, znlt, zl2, zn2_, zl3, zn3_, zl5, zn5_, zl9, zn9_, zl10, zn10_, zl16, zn16_, zl20, zn20_, zl40, zn40_, zl60, zn60_, zl76, zn76_, zl80, zn80_, zl288, zn288_, zl300, zn300_, zneg, Nat.reduceEqDiff, Nat.reduceAdd, ↓reduceIte, hU, hU26, hUa, hF, hfr, s_hasR, b2i_0, e1]
      have e5 : bs (yw fr r) (k + 1) = if yw fr r k = true then bs (yw fr r) k ||| zshl 1 (nI k) else bs (yw fr r) k := rfl
      cases hz : zb (r 45) k
      · cases hfb : fr
        · subst hfb
          by_cases q1 : r k = 9
          · by_cases q2 : r (18 + k) = -1
            · have hy1 : yw false r k = true := by unfold yw; simp [hz, q1, q2]
              have ht1 : tc false r k = true := by unfold tc; simp [hz, q1, q2]
              rw [e5, hy1, ← fx_end (Nat.zero_le k) ht1, ht] at ih
              simp only [q1, q2, ↓reduceIte, (fun s => zput_comm s (show 214 < 226 by decide)), zput_twice] at ih ⊢
              exact ih
            · have ht1 : tc false r k = false := by unfold tc; simp [q2]
              by_cases q3 : r (18 + k) = nI t
              · have hy1 : yw false r k = true := by unfold yw; simp [hz, ht, q3]
                rw [e5, hy1, ← fx_endn ht1] at ih
                rw [q3] at q2
                simp only [q1, q2, q3, ↓reduceIte, (fun s => zput_comm s (show 214 < 226 by decide)), zput_twice] at ih ⊢
                exact ih
              · have hy1 : yw false r k = false := by unfold yw; simp [hz, ht, q2, q3]
                rw [e5, hy1, ← fx_endn ht1] at ih
                simp only [q1, q2, q3, ↓reduceIte, (fun s => zput_comm s (show 214 < 226 by decide)), zput_twice] at ih ⊢
                exact ih
          · have ht1 : tc false r k = false := by unfold tc; simp [q1]
            by_cases q3 : r (18 + k) = nI t
            · have hy1 : yw false r k = true := by unfold yw; simp [hz, ht, q3]
              rw [e5, hy1, ← fx_endn ht1] at ih
              simp only [q1, q3, ↓reduceIte, (fun s => zput_comm s (show 214 < 226 by decide)), zput_twice] at ih ⊢
              exact ih
            · have hy1 : yw false r k = false := by unfold yw; simp [hz, ht, q1, q3]
              rw [e5, hy1, ← fx_endn ht1] at ih
              simp only [q1, q3, ↓reduceIte, (fun s => zput_comm s (show 214 < 226 by decide)), zput_twice] at ih ⊢
              exact ih
        · subst hfb
          have ht1 : tc true r k = false := by unfold tc; simp
          by_cases q3 : r (18 + k) = nI t
          · have hy1 : yw true r k = true := by unfold yw; simp [hz, ht, q3]
            rw [e5, hy1, ← fx_endn ht1] at ih
            simp only [q3, Bool.true_eq_false, ↓reduceIte, (fun s => zput_comm s (show 214 < 226 by decide)), zput_twice] at ih ⊢
            exact ih
          · have hy1 : yw true r k = false := by unfold yw; simp [ht, q3]
            rw [e5, hy1, ← fx_endn ht1] at ih
            simp only [q3, Bool.true_eq_false, ↓reduceIte, (fun s => zput_comm s (show 214 < 226 by decide)), zput_twice] at ih ⊢
            exact ih
      · have hy1 : yw fr r k = false := by unfold yw; simp [hz]
        have ht1 : tc fr r k = false := by unfold tc; simp [hz]
        rw [e5, hy1, ← fx_endn ht1] at ih
        simp only [Bool.true_eq_false, ↓reduceIte]
        exact ih
    · refine k_205_22_i214_226 ?_
      simp (disch := omega) only [zup_eq, zput_app, zput_twice, zput_comm, upd_same, nI_1, za2, zA2, zm2, za3, zA3, zm3, za4, zA4, zm4, za9, zA9, zm9, za10, zA10, zm10, za18, zA18, zm18, za27, zA27, zm27, za36, zA36, zm36, za48, zA48, zm48, za288, zA288, zm288, zcl, zinT, upd_ne, upd_eq, zlt, znlt, zl2, zn2_, zl3, zn3_, zl5, zn5_, zl9, zn9_, zl10, zn10_, zl16, zn16_, zl20, zn20_, zl40, zn40_, zl60, zn60_, zl76, zn76_, zl80, zn80_, zl288, zn288_, zl300, zn300_, zneg, Nat.reduceEqDiff, Nat.reduceAdd, ↓reduceIte, hU, hF]
      exact loop2
  rw [fx_none, zput_self2 (by simp only [zput_app, Nat.reduceEqDiff, ↓reduceIte]; exact hr.symm)] at loop1
  rw [ht]
  exact loop1
