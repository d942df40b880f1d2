/-! dies, everlasting */ -/
theorem s_fill29 {d : Nat} {σ : zS} {Q : Int32 → zS → Prop} (h : ∀ σ', Fr (fun o _ => decide (o = 29)) σ σ' → (∀ i, i < 9 → σ' 29 i = -1) → Q 0 σ') : ZC (d + 1) 5 [.ref 29, .int (-1)] σ Q := by
  refine k_5_0_i29 ?_
  have hz := z_for (F := 9) (P := fun k => ∀ σ1, Fr (fun o _ => decide (o = 29)) σ σ1 → (∀ i, i < k → σ1 29 i = -1) → Z d 5 Q 5 [.ref 29, .int (-1), .int (nI k), .int (nI 9)] [] σ1) (fun k hk ih => ?_) ?_
  · exact hz σ Fr.rf (fun i hi => absurd hi (Nat.not_lt_zero i))
  · intro σ1 f1 e1
    refine k_5_5_i29 ?_
    simp (disch := omega) only [zup_eq, zput_app, zput_twice, upd_same, nI_1, za2, zA2, zm2, za3, zA3, zm3, za4, zA4, zm4, za9, zA9, zm9, za10, zA10, zm10, za18, zA18, zm18, za27, zA27, zm27, za36, zA36, zm36, za48, zA48, zm48, za288, zA288, zm288, zcl, zinT, upd_ne, upd_eq, zlt, znlt, zl2, zn2_, zl3, zn3_, zl5, zn5_, zl9, zn9_, zl10, zn10_, zl16, zn16_, zl20, zn20_, zl40, zn40_, zl60, zn60_, zl76, zn76_, zl80, zn80_, zl288, zn288_, zl300, zn300_, zneg, Nat.reduceEqDiff, Nat.reduceAdd, ↓reduceIte]
    refine ih _ (Fr.tr f1 (Fr.put (fun i q => by simp at q))) (fun i hi => ?_)
    simp only [zput_app, ↓reduceIte]
    by_cases h2 : i = k
    · rw [h2, upd_eq]
    · rw [upd_ne h2]; exact e1 i (by omega)
  · intro σ1 f1 e1
    refine k_5_5_i29 ?_
    rw [if_neg (by decide)]
    exact h σ1 f1 e1
theorem s_fill30 {d : Nat} {σ : zS} {Q : Int32 → zS → Prop} (h : ∀ σ', Fr (fun o _ => decide (o = 30)) σ σ' → (∀ i, i < 9 → σ' 30 i = -1) → Q 0 σ') : ZC (d + 1) 5 [.ref 30, .int (-1)] σ Q := by
  refine k_5_0_i30 ?_
  have hz := z_for (F := 9) (P := fun k => ∀ σ1, Fr (fun o _ => decide (o = 30)) σ σ1 → (∀ i, i < k → σ1 30 i = -1) → Z d 5 Q 5 [.ref 30, .int (-1), .int (nI k), .int (nI 9)] [] σ1) (fun k hk ih => ?_) ?_
  · exact hz σ Fr.rf (fun i hi => absurd hi (Nat.not_lt_zero i))
  · intro σ1 f1 e1
    refine k_5_5_i30 ?_
    simp (disch := omega) only [zup_eq, zput_app, zput_twice, upd_same, nI_1, za2, zA2, zm2, za3, zA3, zm3, za4, zA4, zm4, za9, zA9, zm9, za10, zA10, zm10, za18, zA18, zm18, za27, zA27, zm27, za36, zA36, zm36, za48, zA48, zm48, za288, zA288, zm288, zcl, zinT, upd_ne, upd_eq, zlt, znlt, zl2, zn2_, zl3, zn3_, zl5, zn5_, zl9, zn9_, zl10, zn10_, zl16, zn16_, zl20, zn20_, zl40, zn40_, zl60, zn60_, zl76, zn76_, zl80, zn80_, zl288, zn288_, zl300, zn300_, zneg, Nat.reduceEqDiff, Nat.reduceAdd, ↓reduceIte]
    refine ih _ (Fr.tr f1 (Fr.put (fun i q => by simp at q))) (fun i hi => ?_)
    simp only [zput_app, ↓reduceIte]
    by_cases h2 : i = k
    · rw [h2, upd_eq]
    · rw [upd_ne h2]; exact e1 i (by omega)
  · intro σ1 f1 e1
    refine k_5_5_i30 ?_
    rw [if_neg (by decide)]
    exact h σ1 f1 e1
theorem c_dropAll {d : Nat} {σ : zS} {c : MC} {l : List Int32} {t : Nat} {r : Nat → Int32} (h : PC c l t r σ) {Q : Int32 → zS → Prop} (hq : ∀ σ', Fr scC σ σ' → PC c l t (clS r (-1) c.1) σ' → Q 0 σ') : ZC (d + 2) 29 [.ref 26] σ Q := by
  have h9 := h.2.2.1.2.1
  refine k_29_0 ?_
  refine s_fill29 (fun σ1 f1 e1 => ?_)
  refine s_fill30 (fun σ2 f2 e2 => ?_)
  have f12 : Fr (pm 26) σ (zup σ2 26 4 0) := Fr.tr (Fr.mono f1 (fun o i q => by simp [pm] at q ⊢; omega)) (Fr.tr (Fr.mono f2 (fun o i q => by simp [pm] at q ⊢; omega)) (Fr.up (by decide)))
  have o27 : ∀ i, σ2 27 i = σ 27 i := fun i => (f2 27 i (by simp)).trans (f1 27 i (by simp))
  have o28 : ∀ i, σ2 28 i = σ 28 i := fun i => (f2 28 i (by simp)).trans (f1 28 i (by simp))
  have o26 : ∀ i, σ2 26 i = σ 26 i := fun i => (f2 26 i (by simp)).trans (f1 26 i (by simp))
  have o29 : ∀ i, i < 9 → σ2 29 i = -1 := fun i hi => (f2 29 i (by simp)).trans (e1 i hi)
  obtain ⟨b1, b2, b3, b4, b5⟩ := h.2.2.2.1
  refine hq _ (fr_pm26 f12) (h.row f12 ⟨fun g hg => ?_, fun g hg hg2 => ?_, fun g hg hg2 => ?_, ?_, ?_⟩ (clS_WR h9 h9 h.2.2.2.2))
  · obtain ⟨a1, a2, a3, a4, a5⟩ := b1 g hg
    have m1 : ∀ f, f < 32 → zb (-1) f = true := zb_m1
    have k1 : clS r (-1) c.1 (18 + g) = -1 := by
      unfold clS; rw [if_pos ⟨by omega, by omega, m1 _ (by omega)⟩]
    have k2 : clS r (-1) c.1 (27 + g) = -1 := by
      unfold clS; rw [if_neg (by omega), if_pos ⟨by omega, by omega, m1 _ (by omega)⟩]
    have k3 : clS r (-1) c.1 (36 + g) = 0 := by
      unfold clS; rw [if_neg (by omega), if_neg (by omega), if_pos ⟨by omega, by omega, m1 _ (by omega)⟩]
    rw [k1, k2, k3, clS_hi h9 (by omega), clS_hi h9 (by omega)]
    simp (disch := omega) only [zup_eq, zput_app, zput_twice, upd_same, nI_1, za2, zA2, zm2, za3, zA3, zm3, za4, zA4, zm4, za9, zA9, zm9, za10, zA10, zm10, za18, zA18, zm18, za27, zA27, zm27, za36, zA36, zm36, za48, zA48, zm48, za288, zA288, zm288, zcl, zinT, upd_ne, upd_eq, zlt, znlt, zl2, zn2_, zl3, zn3_, zl5, zn5_, zl9, zn9_, zl10, zn10_, zl16, zn16_, zl20, zn20_, zl40, zn40_, zl60, zn60_, zl76, zn76_, zl80, zn80_, zl288, zn288_, zl300, zn300_, zneg, Nat.reduceEqDiff, Nat.reduceAdd, ↓reduceIte, o27, o28, o29, e2, zb_0]
    exact ⟨a1, a2, trivial, trivial, by decide⟩
  · simp (disch := omega) only [zup_eq, zput_app, zput_twice, upd_same, nI_1, za2, zA2, zm2, za3, zA3, zm3, za4, zA4, zm4, za9, zA9, zm9, za10, zA10, zm10, za18, zA18, zm18, za27, zA27, zm27, za36, zA36, zm36, za48, zA48, zm48, za288, zA288, zm288, zcl, zinT, upd_ne, upd_eq, zlt, znlt, zl2, zn2_, zl3, zn3_, zl5, zn5_, zl9, zn9_, zl10, zn10_, zl16, zn16_, zl20, zn20_, zl40, zn40_, zl60, zn60_, zl76, zn76_, zl80, zn80_, zl288, zn288_, zl300, zn300_, zneg, Nat.reduceEqDiff, Nat.reduceAdd, ↓reduceIte, o28, o29, e2]
    exact ⟨(b2 g hg hg2).1, trivial, trivial⟩
  · simp (disch := omega) only [zup_eq, zput_app, zput_twice, upd_same, nI_1, za2, zA2, zm2, za3, zA3, zm3, za4, zA4, zm4, za9, zA9, zm9, za10, zA10, zm10, za18, zA18, zm18, za27, zA27, zm27, za36, zA36, zm36, za48, zA48, zm48, za288, zA288, zm288, zcl, zinT, upd_ne, upd_eq, zlt, znlt, zl2, zn2_, zl3, zn3_, zl5, zn5_, zl9, zn9_, zl10, zn10_, zl16, zn16_, zl20, zn20_, zl40, zn40_, zl60, zn60_, zl76, zn76_, zl80, zn80_, zl288, zn288_, zl300, zn300_, zneg, Nat.reduceEqDiff, Nat.reduceAdd, ↓reduceIte, zb_0]
  · rw [clS_hi h9 (by omega)]
    simp (disch := omega) only [zup_eq, zput_app, zput_twice, upd_same, nI_1, za2, zA2, zm2, za3, zA3, zm3, za4, zA4, zm4, za9, zA9, zm9, za10, zA10, zm10, za18, zA18, zm18, za27, zA27, zm27, za36, zA36, zm36, za48, zA48, zm48, za288, zA288, zm288, zcl, zinT, upd_ne, upd_eq, zlt, znlt, zl2, zn2_, zl3, zn3_, zl5, zn5_, zl9, zn9_, zl10, zn10_, zl16, zn16_, zl20, zn20_, zl40, zn40_, zl60, zn60_, zl76, zn76_, zl80, zn80_, zl288, zn288_, zl300, zn300_, zneg, Nat.reduceEqDiff, Nat.reduceAdd, ↓reduceIte, o26]; exact b4
  · rw [clS_hi h9 (by omega)]
    simp (disch := omega) only [zup_eq, zput_app, zput_twice, upd_same, nI_1, za2, zA2, zm2, za3, zA3, zm3, za4, zA4, zm4, za9, zA9, zm9, za10, zA10, zm10, za18, zA18, zm18, za27, zA27, zm27, za36, zA36, zm36, za48, zA48, zm48, za288, zA288, zm288, zcl, zinT, upd_ne, upd_eq, zlt, znlt, zl2, zn2_, zl3, zn3_, zl5, zn5_, zl9, zn9_, zl10, zn10_, zl16, zn16_, zl20, zn20_, zl40, zn40_, zl60, zn60_, zl76, zn76_, zl80, zn80_, zl288, zn288_, zl300, zn300_, zneg, Nat.reduceEqDiff, Nat.reduceAdd, ↓reduceIte, o26]; exact b5
/-- who has DUE -/
def dueB (F : Nat) (r : Nat → Int32) : Int32 := bs (fun f => !decide (r (18 + f) = -1)) F
theorem dueB_cong {F : Nat} {r r' : Nat → Int32} (h9 : F ≤ 9) (h : REq r r') : dueB F r = dueB F r' := bs_congr (fun f hf => by rw [h (18 + f) (by omega)])
theorem c_waiting17 {d : Nat} {σ : zS} {F : Nat} {r : Nat → Int32} (hcm : CM 17 F r σ) (h9 : F ≤ 9) (Q : Int32 → zS → Prop) : ZC (d + 2) 30 [.ref 17] σ Q = Q (dueB F r) σ := by
  refine s_of (fun Q h => k_30_0_i17 ?_) Q
  have e : ∀ f, f < 9 → (σ 20 f = -1) = ¬ (f < F ∧ ¬ r (18 + f) = -1) := by
    intro f hf
    by_cases hfF : f < F
    · rw [(hcm.1 f hfF).2.2.1]
      refine propext ⟨fun q h2 => h2.2 q, fun q => Classical.byContradiction (fun h2 => q ⟨hfF, h2⟩)⟩
    · rw [(hcm.2.1 f (by omega) hf).2.1]
      exact propext ⟨fun _ h2 => hfF h2.1, fun _ => rfl⟩
  have hfin : bs (fun f => decide (f < F ∧ ¬ r (18 + f) = -1)) 9 = dueB F r := by
    unfold dueB
    apply zb_ext
    intro f hf
    rw [zb_bs (by decide) hf, zb_bs (by omega) hf]
    by_cases hfF : f < F
    · have : f < 9 := by omega
      simp [hfF, this]
    · simp [hfF]
  refine z_for (F := 9) (P := fun k => Z (d + 1) 30 Q 4 [.ref 17, .int (bs (fun f => decide (f < F ∧ ¬ r (18 + f) = -1)) k), .int (nI k)] [] σ) (fun k hk ih => ?_) ?_
  · refine k_30_4_i17 ?_
    rw [bs_1] at ih
    simp (disch := omega) only [zup_eq, zput_app, zput_twice, upd_same, nI_1, za2, zA2, zm2, za3, zA3, zm3, za4, zA4, zm4, za9, zA9, zm9, za10, zA10, zm10, za18, zA18, zm18, za27, zA27, zm27, za36, zA36, zm36, za48, zA48, zm48, za288, zA288, zm288, zcl, zinT, upd_ne, upd_eq, zlt, znlt, zl2, zn2_, zl3, zn3_, zl5, zn5_, zl9, zn9_, zl10, zn10_, zl16, zn16_, zl20, zn20_, zl40, zn40_, zl60, zn60_, zl76, zn76_, zl80, zn80_, zl288, zn288_, zl300, zn300_, zneg, Nat.reduceEqDiff, Nat.reduceAdd, ↓reduceIte, e k hk, s_bit, i_or0]
    by_cases hq : k < F ∧ ¬ r (18 + k) = -1
    · rw [if_neg (fun q => q hq)]; rw [decide_eq_true hq] at ih; exact ih
    · rw [if_pos hq]; rw [decide_eq_false hq] at ih; exact ih
  · refine k_30_4_i17 ?_
    rw [if_neg (by decide), hfin]
    exact h
theorem c_waiting26 {d : Nat} {σ : zS} {F : Nat} {r : Nat → Int32} (hcm : CM 26 F r σ) (h9 : F ≤ 9) (Q : Int32 → zS → Prop) : ZC (d + 2) 30 [.ref 26] σ Q = Q (dueB F r) σ := by
  refine s_of (fun Q h => k_30_0_i26 ?_) Q
  have e : ∀ f, f < 9 → (σ 29 f = -1) = ¬ (f < F ∧ ¬ r (18 + f) = -1) := by
    intro f hf
    by_cases hfF : f < F
    · rw [(hcm.1 f hfF).2.2.1]
      refine propext ⟨fun q h2 => h2.2 q, fun q => Classical.byContradiction (fun h2 => q ⟨hfF, h2⟩)⟩
    · rw [(hcm.2.1 f (by omega) hf).2.1]
      exact propext ⟨fun _ h2 => hfF h2.1, fun _ => rfl⟩
  have hfin : bs (fun f => decide (f < F ∧ ¬ r (18 + f) = -1)) 9 = dueB F r := by
    unfold dueB
    apply zb_ext
    intro f hf
    rw [zb_bs (by decide) hf, zb_bs (by omega) hf]
    by_cases hfF : f < F
    · have : f < 9 := by omega
      simp [hfF, this]
    · simp [hfF]
  refine z_for (F := 9) (P := fun k => Z (d + 1) 30 Q 4 [.ref 26, .int (bs (fun f => decide (f < F ∧ ¬ r (18 + f) = -1)) k), .int (nI k)] [] σ) (fun k hk ih => ?_) ?_
  · refine k_30_4_i26 ?_
    rw [bs_1] at ih
    simp (disch := omega) only [zup_eq, zput_app, zput_twice, upd_same, nI_1, za2, zA2, zm2, za3, zA3, zm3, za4, zA4, zm4, za9, zA9, zm9, za10, zA10, zm10, za18, zA18, zm18, za27, zA27, zm27, za36, zA36, zm36, za48, zA48, zm48, za288, zA288, zm288, zcl, zinT, upd_ne, upd_eq, zlt, znlt, zl2, zn2_, zl3, zn3_, zl5, zn5_, zl9, zn9_, zl10, zn10_, zl16, zn16_, zl20, zn20_, zl40, zn40_, zl60, zn60_, zl76, zn76_, zl80, zn80_, zl288, zn288_, zl300, zn300_, zneg, Nat.reduceEqDiff, Nat.reduceAdd, ↓reduceIte, e k hk, s_bit, i_or0]
    by_cases hq : k < F ∧ ¬ r (18 + k) = -1
    · rw [if_neg (fun q => q hq)]; rw [decide_eq_true hq] at ih; exact ih
    · rw [if_pos hq]; rw [decide_eq_false hq] at ih; exact ih
  · refine k_30_4_i26 ?_
    rw [if_neg (by decide), hfin]
    exact h
def dI (c : MC) : Nat → Nat → (Nat → Int32) → Int32
  | 0, _, _ => -2
  | n + 1, k, r => if dueB c.1 (ms c true r) = 0 then nI k else dI c n (k + 1) (ms c true r)
theorem dI_cong {c : MC} (h9 : c.1 ≤ 9) : ∀ n k (r r' : Nat → Int32), REq r r' → dI c n k r = dI c n k r' := by
  intro n
  induction n with
  | zero => intro _ _ _ _; rfl
  | succ n ih =>
    intro k r r' h
    have h2 := ms_cong (fr := true) h9 h
    unfold dI
    rw [dueB_cong h9 h2, ih _ _ _ h2]
theorem dI_cases {c : MC} : ∀ n k (r : Nat → Int32), dI c n k r = -2 ∨ ∃ m, k ≤ m ∧ m < k + n ∧ dI c n k r = nI m := by
  intro n
  induction n with
  | zero => intro _ _; exact Or.inl rfl
  | succ n ih =>
    intro k r
    unfold dI
    split
    · exact Or.inr ⟨k, Nat.le_refl k, by omega, rfl⟩
    · rcases ih (k + 1) (ms c true r) with h | ⟨m, h1, h2, h3⟩
      · exact Or.inl h
      · exact Or.inr ⟨m, by omega, by omega, h3⟩
/-- one yawns now, alone; some away besides -/
def drow (r : Nat → Int32) (F f : Nat) (x : Int32) : Nat → Int32 := bg (aw (clS r (-1) F) x) f 0
theorem drow_cong {r r' : Nat → Int32} (h : REq r r') (F f : Nat) (x : Int32) : REq (drow r F f x) (drow r' F f x) := bg_cong (aw_cong (clS_cong h _ _) _) _ _
theorem drow_WR {F t f : Nat} {r : Nat → Int32} (x : Int32) (h9 : F ≤ 9) (hf : f < F) (h : WR F t r) : WR F t (drow r F f x) := bg_WR h9 hf (Or.inl rfl) (aw_WR _ h9 (clS_WR h9 h9 h))
/-- of the faces that are there -/
def InF (F : Nat) (x : Int32) : Prop := ∀ f, f < 32 → zb x f = true → f < F
theorem row_dropped {r : Nat → Int32} {F : Nat} {x y a : Int32} (h9 : F ≤ 9) : REq (clS (aw (clS r x F) a) (-1) F) (aw (clS r (-1) F) a) := by
  intro i hi
  unfold aw
  by_cases h45 : i = 45
  · subst h45; rw [clS_hi h9 (by omega), upd_eq, upd_eq]
  · rw [upd_ne h45]
    unfold clS
    rw [upd_ne h45]
    by_cases h1 : 18 ≤ i ∧ i < 18 + F
    · have := zb_m1 (i - 18) (by omega)
      rw [if_pos ⟨h1.1, h1.2, this⟩, if_pos ⟨h1.1, h1.2, this⟩]
    · rw [if_neg (fun q => h1 ⟨q.1, q.2.1⟩) (c := 18 ≤ i ∧ i < 18 + F ∧ zb (-1) (i - 18) = true), if_neg (fun q => h1 ⟨q.1, q.2.1⟩) (c := 18 ≤ i ∧ i < 18 + F ∧ zb (-1) (i - 18) = true), if_neg (fun q => h1 ⟨q.1, q.2.1⟩) (c := 18 ≤ i ∧ i < 18 + F ∧ zb x (i - 18) = true)]
      by_cases h2 : 27 ≤ i ∧ i < 27 + F
      · have := zb_m1 (i - 27) (by omega)
        rw [if_pos ⟨h2.1, h2.2, this⟩, if_pos ⟨h2.1, h2.2, this⟩]
      · rw [if_neg (fun q => h2 ⟨q.1, q.2.1⟩) (c := 27 ≤ i ∧ i < 27 + F ∧ zb (-1) (i - 27) = true), if_neg (fun q => h2 ⟨q.1, q.2.1⟩) (c := 27 ≤ i ∧ i < 27 + F ∧ zb (-1) (i - 27) = true), if_neg (fun q => h2 ⟨q.1, q.2.1⟩) (c := 27 ≤ i ∧ i < 27 + F ∧ zb x (i - 27) = true)]
        by_cases h3 : 36 ≤ i ∧ i < 36 + F
        · have := zb_m1 (i - 36) (by omega)
          rw [if_pos ⟨h3.1, h3.2, this⟩, if_pos ⟨h3.1, h3.2, this⟩]
        · rw [if_neg (fun q => h3 ⟨q.1, q.2.1⟩) (c := 36 ≤ i ∧ i < 36 + F ∧ zb (-1) (i - 36) = true), if_neg (fun q => h3 ⟨q.1, q.2.1⟩) (c := 36 ≤ i ∧ i < 36 + F ∧ zb (-1) (i - 36) = true), if_neg (fun q => h3 ⟨q.1, q.2.1⟩) (c := 36 ≤ i ∧ i < 36 + F ∧ zb x (i - 36) = true)]
theorem c_diesWithout {d : Nat} {σ σ1 : zS} {c : MC} {l : List Int32} {t f : Nat} {x : Int32} (hc : Ctx c l t σ) (f0 : Fr scC σ σ1) (hf : f < c.1) (hx : InF c.1 x) (ht : t + 300 < 1073741824) {Q : Int32 → zS → Prop}
    (hq : ∀ σ', Fr scC σ σ' → Q (dI c 300 1 (drow (σ 215) c.1 f (σ 215 45 ||| x))) σ') : ZC (d + 6) 159 [.ref 0, .int (nI f), .int x] σ1 Q := by
  have h9 := hc.h9
  refine k_159_0 ?_
  refine c_take2 hc f0.cT (fun σ2 f2 p2 => ?_)
  have f02 := Fr.tr f0 f2
  have g14 : σ2 14 3 = nI c.1 := (tC_14 f02.cT).trans hc.h14
  have e5 : σ2 17 5 = σ 215 45 := (f02 17 5 (by decide)).trans hc.hcm.2.2.2.1
  rw [c_everybody14, g14, e5]
  generalize hy : ((zshl 1 (nI c.1) - 1) &&& (σ 215 45 ^^^ (-1))) &&& x = y
  have hyb : ∀ g, g < 32 → zb y g = (decide (g < c.1) && !zb (σ 215 45) g && zb x g) := by
    intro g hg
    rw [← hy, zb_and, zb_and, zb_all _ h9 g hg, zb_not hg]
  have hsub : Sub c.1 (σ 215) y := by
    intro g hg hz
    rw [hyb g hg] at hz
    simp only [Bool.and_eq_true, decide_eq_true_eq, Bool.not_eq_true'] at hz
    exact ⟨hz.1.1, hz.1.2⟩
  refine c_send p2 hsub (fun σ3 f3 p3 => ?_)
  refine c_dropAll p3 (fun σ4 f4 p4 => ?_)
  have hor : σ 215 45 ||| y = σ 215 45 ||| x := by
    apply zb_ext
    intro g hg
    rw [zb_or, zb_or, hyb g hg]
    cases hx1 : zb x g
    · simp
    · have := hx g hg hx1
      cases zb (σ 215 45) g <;> simp [this]
  have hre := row_dropped (r := σ 215) (F := c.1) (x := y) (y := y) (a := σ 215 45 ||| y) h9
  have e46 : σ4 26 6 = clS (aw (clS (σ 215) y c.1) (σ 215 45 ||| y)) (-1) c.1 46 := p4.2.2.2.1.2.2.2.2
  refine c_planT p4 hf (Or.inl rfl) e46 (fun σ5 f5 p5 => ?_)
  have f05 := Fr.tr f02 (Fr.tr f3 (Fr.tr f4 f5))
  have hre2 : REq (bg (clS (aw (clS (σ 215) y c.1) (σ 215 45 ||| y)) (-1) c.1) f 0) (drow (σ 215) c.1 f (σ 215 45 ||| x)) := by
    unfold drow
    rw [← hor]
    exact bg_cong hre f 0
  rw [← dI_cong h9 300 1 _ _ hre2] at hq
  have loop : ∀ m k (r : Nat → Int32) t (σ6 : zS), k + m = 301 → 1 ≤ k → t + m < 1073741824 → Fr scC σ σ6 → PC c l t r σ6 → (∀ σ', Fr scC σ σ' → Q (dI c m k r) σ') → Z (d + 5) 159 Q 78 [.ref 0, .int (nI f), .int x, .int (nI k)] [] σ6 := by
    intro m
    induction m with
    | zero =>
      intro k r t σ6 hk hk1 ht f6 p6 hq
      refine k_159_78 ?_
      rw [if_pos (show (300 : Int32) < nI k from nI_lt (a := 300) (by omega) (by omega))]
      exact hq σ6 f6
    | succ m ih =>
      intro k r t σ6 hk hk1 ht f6 p6 hq
      refine k_159_78 ?_
      rw [if_neg (show ¬ (300 : Int32) < nI k from nI_nlt (a := 300) (b := k) (by omega) (by omega)), show (Value.int 1) = .int (b2i true) from rfl]
      refine c_passT p6 (by omega) (fun σ7 f7 p7 y7 m7 l7 => ?_)
      rw [c_waiting26 p7.2.2.2.1 h9]
      have f67 := Fr.tr f6 f7.spw
      unfold dI at hq
      by_cases hz : dueB c.1 (ms c true r) = 0
      · rw [if_pos hz]; rw [if_pos hz] at hq
        exact hq σ7 f67
      · rw [if_neg hz, nI_1]; rw [if_neg hz] at hq
        exact ih (k + 1) _ (t + 1) σ7 (by omega) (by omega) (by omega) f67 p7 hq
  exact loop 300 1 _ t σ5 (by decide) (by decide) (by omega) f05 p5 hq
theorem r_isDue {d : Nat} {σ : zS} {F : Nat} (hF : σ 214 1 = nI F) (h9 : F ≤ 9) (Q : Int32 → zS → Prop) : ZC (d + 1) 236 [.ref 214] σ Q = Q (b2i (!decide (dueB F (σ 226) = 0))) σ := by
  refine s_of (fun Q h => k_236_0 ?_) Q
  refine z_forI (F := F) (I := fun k => ∀ g, g < k → σ 226 (18 + g) = -1) (P := fun k => Z d 236 Q 2 [.ref 214, .int (nI k)] [] σ) (fun k hk hI ih => ?_) ?_ (fun g hg => absurd hg (Nat.not_lt_zero g))
  · refine k_236_2 ?_
    simp (disch := omega) only [zup_eq, zput_app, zput_twice, upd_same, nI_1, za2, zA2, zm2, za3, zA3, zm3, za4, zA4, zm4, za9, zA9, zm9, za10, zA10, zm10, za18, zA18, zm18, za27, zA27, zm27, za36, zA36, zm36, za48, zA48, zm48, za288, zA288, zm288, zcl, zinT, upd_ne, upd_eq, zlt, znlt, zl2, zn2_, zl3, zn3_, zl5, zn5_, zl9, zn9_, zl10, zn10_, zl16, zn16_, zl20, zn20_, zl40, zn40_, zl60, zn60_, zl76, zn76_, zl80, zn80_, zl288, zn288_, zl300, zn300_, zneg, Nat.reduceEqDiff, Nat.reduceAdd, ↓reduceIte, hF]
    by_cases hq : σ 226 (18 + k) = -1
    · rw [if_pos hq]
      refine ih (fun g hg => ?_)
      by_cases hgk : g = k
      · rw [hgk]; exact hq
      · exact hI g (by omega)
    · rw [if_neg hq]
      have hne : ¬ dueB F (σ 226) = 0 := by
        intro q
        have : zb (dueB F (σ 226)) k = true := by
          unfold dueB
          rw [zb_bs (by omega) (by omega)]; simp [hk, hq]
        rw [q, zb_0] at this; cases this
      rw [decide_eq_false hne] at h
      exact h
  · intro hI
    refine k_236_2 ?_
    simp (disch := omega) only [zup_eq, zput_app, zput_twice, upd_same, nI_1, za2, zA2, zm2, za3, zA3, zm3, za4, zA4, zm4, za9, zA9, zm9, za10, zA10, zm10, za18, zA18, zm18, za27, zA27, zm27, za36, zA36, zm36, za48, zA48, zm48, za288, zA288, zm288, zcl, zinT, upd_ne, upd_eq, zlt, znlt, zl2, zn2_, zl3, zn3_, zl5, zn5_, zl9, zn9_, zl10, zn10_, zl16, zn16_, zl20, zn20_, zl40, zn40_, zl60, zn60_, zl76, zn76_, zl80, zn80_, zl288, zn288_, zl300, zn300_, zneg, Nat.reduceEqDiff, Nat.reduceAdd, ↓reduceIte, hF]
    have hz : dueB F (σ 226) = 0 := by
      apply zb_ext
      intro f hf
      unfold dueB
      rw [zb_bs (by omega) hf, zb_0]
      by_cases hfF : f < F
      · simp [hI f hfF]
      · simp [hfF]
    rw [decide_eq_true hz] at h
    exact h
def p7 (o i : Nat) : Bool := scR o i || decide (o = 214 ∧ i = 7)
theorem fr_p7 {σ σ' : zS} (h : Fr scR σ σ') : Fr p7 σ σ' := Fr.mono h (fun o i q => by
  unfold p7 at q
  rw [Bool.or_eq_false_iff] at q
  exact q.1)
theorem r_diesIn {d : Nat} {σ σ3 σ4 : zS} {c : MC} {l : List Int32} {t f : Nat} {x : Int32} (hc : Ctx c l t σ) (f3 : Fr tC σ σ3) (f4 : Fr scR σ3 σ4) (hf : f < c.1) (ht : t + 300 < 100000000) {Q : Int32 → zS → Prop}
    (hq : ∀ σ', Fr scR σ3 σ' → Q (if dI c 300 1 (drow (σ 215) c.1 f (σ 215 45 ||| x)) = -2 then -1 else dI c 300 1 (drow (σ 215) c.1 f (σ 215 45 ||| x))) σ') : ZC (d + 227) 237 [.ref 214, .int (nI f), .int x] σ4 Q := by
  have h9 := hc.h9
  refine k_237_0 ?_
  refine r_begin2 hc f3 f4.rT (fun σ5 f5' f5 p5 e7 e4 e5 => ?_)
  have hreq : REq (σ5 226) (σ 215) := fun i hi => e5 i (by omega)
  have hW := p5.2.2.2.2.2.2
  have fr5 := Fr.tr f4 f5
  have frozen : ∀ m k (σ6 : zS) t, k + m = 301 → 1 ≤ k → t + m < 100000000 → Fr p7 σ3 σ6 → σ6 214 7 = 1 → PF 226 c l t σ6 → (∀ σ', Fr scR σ3 σ' → Q (if dI c m k (σ6 226) = -2 then -1 else dI c m k (σ6 226)) σ') → Z (d + 226) 237 Q 58 [.ref 214, .int (nI f), .int x, .int (-1), .int (nI k)] [] σ6 := by
    have fin : ∀ (σ6 : zS), Fr p7 σ3 σ6 → Fr scR σ3 (zup σ6 214 7 0) := by
      intro σ6 f6 o i q
      by_cases ho : o = 214 ∧ i = 7
      · obtain ⟨rfl, rfl⟩ := ho
        have e1 : (zup σ6 214 7 0) 214 7 = 0 := by simp (disch := omega) only [zup_eq, zput_app, zput_twice, upd_same, nI_1, za2, zA2, zm2, za3, zA3, zm3, za4, zA4, zm4, za9, zA9, zm9, za10, zA10, zm10, za18, zA18, zm18, za27, zA27, zm27, za36, zA36, zm36, za48, zA48, zm48, za288, zA288, zm288, zcl, zinT, upd_ne, upd_eq, zlt, znlt, zl2, zn2_, zl3, zn3_, zl5, zn5_, zl9, zn9_, zl10, zn10_, zl16, zn16_, zl20, zn20_, zl40, zn40_, zl60, zn60_, zl76, zn76_, zl80, zn80_, zl288, zn288_, zl300, zn300_, zneg, Nat.reduceEqDiff, Nat.reduceAdd, ↓reduceIte]
        have e2 : σ3 214 7 = 0 := (f3 214 7 (by decide)).trans hc.2.2.2.2.2.2.2.2.2.1
        rw [e1, e2]
      · have e1 : (zup σ6 214 7 0) o i = σ6 o i := by
          simp only [zup_eq, zput_app, upd_app]
          by_cases h1 : o = 214
          · subst h1
            rw [if_pos rfl, upd_ne (fun h2 => ho ⟨rfl, h2⟩)]
          · rw [if_neg h1]
        rw [e1]
        refine f6 o i ?_
        unfold p7
        rw [q, Bool.false_or]
        exact decide_eq_false ho
    intro m
    induction m with
    | zero =>
      intro k σ6 t hk hk1 ht f6 k7 p6 hq
      refine k_237_58 ?_
      rw [if_pos (show (300 : Int32) < nI k from nI_lt (a := 300) (by omega) (by omega))]
      exact hq _ (fin σ6 f6)
    | succ m ih =>
      intro k σ6 t hk hk1 ht f6 k7 p6 hq
      refine k_237_58 ?_
      rw [if_neg (show ¬ (300 : Int32) < nI k from nI_nlt (a := 300) (b := k) (by omega) (by omega)), if_pos rfl]
      refine r_passT226 (fr := true) p6 k7 (by omega) (fun σ7 f7 q7 r7 y7 g7 m7 => ?_)
      rw [r_isDue q7.2.2.2.2.2.1.1 h9, r7]
      have f67 : Fr p7 σ3 σ7 := Fr.tr f6 (fr_p7 f7.spR)
      have k77 : σ7 214 7 = 1 := (f7 214 7 (by decide)).trans k7
      unfold dI at hq
      by_cases hz : dueB c.1 (ms c true (σ6 226)) = 0
      · rw [decide_eq_true hz, if_pos (by decide), nI_1]
        rw [if_pos hz] at hq
        have hk2 : ¬ nI k = -2 := by
          intro q
          have : (nI k).toInt = (-2 : Int32).toInt := by rw [q]
          rw [nI_toInt (by omega), show (-2 : Int32).toInt = -2 from by decide] at this
          omega
        rw [if_neg hk2] at hq
        refine k_237_58 ?_
        by_cases h3 : (300 : Int32) < nI (k + 1)
        · rw [if_pos h3]; exact hq _ (fin σ7 f67)
        · rw [if_neg h3, if_neg (nI_m1 (by omega))]; exact hq _ (fin σ7 f67)
      · rw [decide_eq_false hz, if_neg (by decide), nI_1]
        rw [if_neg hz] at hq
        rw [← r7] at hq
        exact ih (k + 1) σ7 (t + 1) (by omega) (by omega) (by omega) f67 k77 q7 hq
  refine z_for (F := c.1) (P := fun k => ∀ σ6, Fr scR σ3 σ6 → σ6 226 = clS (σ5 226) (-1) k → PF 226 c l t σ6 → ∀ w, Z (d + 226) 237 Q 6 [.ref 214, .int (nI f), .int x, .int (nI k), w] [] σ6) (fun k hk ih => ?_) ?_ σ5 fr5 (clS_0 _ _).symm p5 _
  · intro σ6 f6 e6 p6 w
    refine k_237_6 ?_
    simp (disch := omega) only [p6.2.2.2.2.2.1.1, zlt, ↓reduceIte, nI_1]
    rw [r_clear226 (by omega)]
    have e1 : (upd (upd (upd (σ6 226) (18 + k) (-1)) (27 + k) (-1)) (36 + k) 0) = clS (σ5 226) (-1) (k + 1) := by
      rw [clS_1 _ _ (by omega), if_pos (zb_m1 k (by omega)), ← e6]; rfl
    rw [e1]
    exact ih _ (Fr.tr f6 fr226) e226 (p6.set (clS_WR (by omega) h9 hW)) _
  · intro σ6 f6 e6 p6 w
    refine k_237_6 ?_
    simp (disch := omega) only [p6.2.2.2.2.2.1.1, znlt, ↓reduceIte]
    have e45 : σ6 226 45 = σ 215 45 := by rw [e6, clS_hi h9 (by omega)]; exact e5 45 (by decide)
    rw [e45]
    have e1 : zup σ6 226 45 (σ 215 45 ||| x) = zput σ6 226 (aw (clS (σ5 226) (-1) c.1) (σ 215 45 ||| x)) := by rw [zup_eq, e6]; rfl
    rw [e1, r_begins226 (by omega)]
    have e2 : (zput (zput σ6 226 (aw (clS (σ5 226) (-1) c.1) (σ 215 45 ||| x))) 226 (upd (upd (upd ((zput σ6 226 (aw (clS (σ5 226) (-1) c.1) (σ 215 45 ||| x))) 226) (18 + f) ((zput σ6 226 (aw (clS (σ5 226) (-1) c.1) (σ 215 45 ||| x))) 226 46)) (27 + f) (-1)) (36 + f) 0)) = zput σ6 226 (drow (σ5 226) c.1 f (σ 215 45 ||| x)) := by
      rw [zput_twice, e226]; rfl
    rw [e2]
    have p8 : PF 226 c l t (zput σ6 226 (drow (σ5 226) c.1 f (σ 215 45 ||| x))) := p6.set (drow_WR _ h9 hf hW)
    have p9 := PFto p8 (p := fun o i => decide (o = 214 ∧ i = 7)) (σ' := zup (zput σ6 226 (drow (σ5 226) c.1 f (σ 215 45 ||| x))) 214 7 1) (Fr.up (by decide)) (fun o i q => by simp; omega)
    have e9 : (zup (zput σ6 226 (drow (σ5 226) c.1 f (σ 215 45 ||| x))) 214 7 1) 226 = drow (σ5 226) c.1 f (σ 215 45 ||| x) := by
      simp (disch := omega) only [zup_eq, zput_app, zput_twice, upd_same, nI_1, za2, zA2, zm2, za3, zA3, zm3, za4, zA4, zm4, za9, zA9, zm9, za10, zA10, zm10, za18, zA18, zm18, za27, zA27, zm27, za36, zA36, zm36, za48, zA48, zm48, za288, zA288, zm288, zcl, zinT, upd_ne, upd_eq, zlt, znlt, zl2, zn2_, zl3, zn3_, zl5, zn5_, zl9, zn9_, zl10, zn10_, zl16, zn16_, zl20, zn20_, zl40, zn40_, zl60, zn60_, zl76, zn76_, zl80, zn80_, zl288, zn288_, zl300, zn300_, zneg, Nat.reduceEqDiff, Nat.reduceAdd, ↓reduceIte]
    refine frozen 300 1 _ t (by decide) (by decide) (by omega) (Fr.tr (fr_p7 (Fr.tr f6 fr226)) (Fr.up (by decide))) (by simp (disch := omega) only [zup_eq, zput_app, zput_twice, upd_same, nI_1, za2, zA2, zm2, za3, zA3, zm3, za4, zA4, zm4, za9, zA9, zm9, za10, zA10, zm10, za18, zA18, zm18, za27, zA27, zm27, za36, zA36, zm36, za48, zA48, zm48, za288, zA288, zm288, zcl, zinT, upd_ne, upd_eq, zlt, znlt, zl2, zn2_, zl3, zn3_, zl5, zn5_, zl9, zn9_, zl10, zn10_, zl16, zn16_, zl20, zn20_, zl40, zn40_, zl60, zn60_, zl76, zn76_, zl80, zn80_, zl288, zn288_, zl300, zn300_, zneg, Nat.reduceEqDiff, Nat.reduceAdd, ↓reduceIte]) p9 ?_
    rw [e9, dI_cong h9 300 1 _ _ (drow_cong hreq c.1 f _)]
    exact hq
