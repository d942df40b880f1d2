/-! some sent away; what comes of one alone */ -/
/-- faces of x, of the first k, without DUE -/
def clS (r : Nat → Int32) (x : Int32) (k : Nat) : Nat → Int32 := fun i => if 18 ≤ i ∧ i < 18 + k ∧ zb x (i - 18) = true then -1 else if 27 ≤ i ∧ i < 27 + k ∧ zb x (i - 27) = true then -1 else if 36 ≤ i ∧ i < 36 + k ∧ zb x (i - 36) = true then 0 else r i
theorem clS_0 (r : Nat → Int32) (x : Int32) : clS r x 0 = r := by
  funext i
  unfold clS
  rw [if_neg (by omega), if_neg (by omega), if_neg (by omega)]
theorem clS_1 (r : Nat → Int32) (x : Int32) {k : Nat} (hk : k < 9) : clS r x (k + 1) = if zb x k = true then gcl (clS r x k) k else clS r x k := by
  funext i
  by_cases hz : zb x k = true
  · rw [if_pos hz]
    unfold gcl clS
    simp only [upd_app]
    by_cases h1 : i = 36 + k
    · subst h1
      rw [if_neg (by omega), if_neg (by omega), if_pos ⟨by omega, by omega, by rw [show 36 + k - 36 = k by omega]; exact hz⟩, if_pos rfl]
    · rw [if_neg h1]
      by_cases h2 : i = 27 + k
      · subst h2
        rw [if_neg (by omega), if_pos ⟨by omega, by omega, by rw [show 27 + k - 27 = k by omega]; exact hz⟩, if_pos rfl]
      · rw [if_neg h2]
        by_cases h3 : i = 18 + k
        · subst h3
          rw [if_pos ⟨by omega, by omega, by rw [show 18 + k - 18 = k by omega]; exact hz⟩, if_pos rfl]
        · rw [if_neg h3]
          have e1 : (18 ≤ i ∧ i < 18 + (k + 1) ∧ zb x (i - 18) = true) = (18 ≤ i ∧ i < 18 + k ∧ zb x (i - 18) = true) := propext ⟨fun q => ⟨q.1, by omega, q.2.2⟩, fun q => ⟨q.1, by omega, q.2.2⟩⟩
          have e2 : (27 ≤ i ∧ i < 27 + (k + 1) ∧ zb x (i - 27) = true) = (27 ≤ i ∧ i < 27 + k ∧ zb x (i - 27) = true) := propext ⟨fun q => ⟨q.1, by omega, q.2.2⟩, fun q => ⟨q.1, by omega, q.2.2⟩⟩
          have e3 : (36 ≤ i ∧ i < 36 + (k + 1) ∧ zb x (i - 36) = true) = (36 ≤ i ∧ i < 36 + k ∧ zb x (i - 36) = true) := propext ⟨fun q => ⟨q.1, by omega, q.2.2⟩, fun q => ⟨q.1, by omega, q.2.2⟩⟩
          simp only [e1, e2, e3]
  · rw [if_neg hz]
    have hne : ∀ o, i = o + k → zb x (i - o) = true → False := fun o h q => by rw [h, Nat.add_sub_cancel_left] at q; exact hz q
    unfold clS
    have e1 : (18 ≤ i ∧ i < 18 + (k + 1) ∧ zb x (i - 18) = true) = (18 ≤ i ∧ i < 18 + k ∧ zb x (i - 18) = true) := propext ⟨fun q => ⟨q.1, by
      by_cases h : i = 18 + k
      · exact (hne 18 h q.2.2).elim
      · omega, q.2.2⟩, fun q => ⟨q.1, by omega, q.2.2⟩⟩
    have e2 : (27 ≤ i ∧ i < 27 + (k + 1) ∧ zb x (i - 27) = true) = (27 ≤ i ∧ i < 27 + k ∧ zb x (i - 27) = true) := propext ⟨fun q => ⟨q.1, by
      by_cases h : i = 27 + k
      · exact (hne 27 h q.2.2).elim
      · omega, q.2.2⟩, fun q => ⟨q.1, by omega, q.2.2⟩⟩
    have e3 : (36 ≤ i ∧ i < 36 + (k + 1) ∧ zb x (i - 36) = true) = (36 ≤ i ∧ i < 36 + k ∧ zb x (i - 36) = true) := propext ⟨fun q => ⟨q.1, by
      by_cases h : i = 36 + k
      · exact (hne 36 h q.2.2).elim
      · omega, q.2.2⟩, fun q => ⟨q.1, by omega, q.2.2⟩⟩
    simp only [e1, e2, e3]
theorem clS_hi {r : Nat → Int32} {x : Int32} {k i : Nat} (hk : k ≤ 9) (h : i < 18 ∨ 45 ≤ i) : clS r x k i = r i := by
  unfold clS
  rw [if_neg (by omega), if_neg (by omega), if_neg (by omega)]
theorem clS_cong {r r' : Nat → Int32} (h : REq r r') (x : Int32) (k : Nat) : REq (clS r x k) (clS r' x k) := by
  intro i hi
  unfold clS
  rw [h i hi]
theorem clS_WR {F t k : Nat} {r : Nat → Int32} {x : Int32} (hk : k ≤ 9) (h9 : F ≤ 9) (h : WR F t r) : WR F t (clS r x k) := by
  obtain ⟨h1, h2, h3, y, h4, h5⟩ := h
  refine ⟨(clS_hi hk (by omega)).trans h1, fun g hg => by rw [clS_hi hk (by omega)]; exact h2 g hg, fun g hg => ?_, y, h4, (clS_hi hk (by omega)).trans h5⟩
  unfold clS
  rw [if_neg (by omega), if_neg (by omega)]
  split
  · exact Or.inl rfl
  · exact h3 g hg
def aw (r : Nat → Int32) (x : Int32) : Nat → Int32 := upd r 45 x
theorem aw_cong {r r' : Nat → Int32} (h : REq r r') (x : Int32) : REq (aw r x) (aw r' x) := by
  intro i hi
  unfold aw
  simp only [upd_app]
  rw [h i hi]
theorem aw_WR {F t : Nat} {r : Nat → Int32} (x : Int32) (h9 : F ≤ 9) (h : WR F t r) : WR F t (aw r x) := by
  obtain ⟨h1, h2, h3, y, h4, h5⟩ := h
  unfold aw
  exact ⟨by rw [upd_ne (by omega)]; exact h1, fun g hg => by rw [upd_ne (by omega)]; exact h2 g hg, fun g hg => by rw [upd_ne (by omega)]; exact h3 g hg, y, h4, by rw [upd_ne (by omega)]; exact h5⟩
/-- a set of faces that are there, and not away -/
def Sub (F : Nat) (r : Nat → Int32) (x : Int32) : Prop := ∀ f, f < 32 → zb x f = true → f < F ∧ zb (r 45) f = false
theorem c_send {d : Nat} {σ : zS} {c : MC} {l : List Int32} {t : Nat} {r : Nat → Int32} {x : Int32} (h : PC c l t r σ) (hx : Sub c.1 r x) {Q : Int32 → zS → Prop} (hq : ∀ σ', Fr scC σ σ' → PC c l t (aw (clS r x c.1) (r 45 ||| x)) σ' → Q 0 σ') : ZC (d + 5) 32 [.ref 26, .int x] σ Q := by
  have h9 := h.2.2.1.2.1
  refine k_32_0 ?_
  refine z_for (F := 9) (P := fun k => ∀ σ1, Fr (pm 26) σ σ1 → PC c l t (aw (clS r x k) (r 45 ||| bs (zb x) k)) σ1 → Z (d + 4) 32 Q 2 [.ref 26, .int x, .int (nI k)] [] σ1) (fun k hk ih => ?_) ?_ σ Fr.rf ?_
  · intro σ1 f1 p1
    refine k_32_2 ?_
    have e5 : σ1 26 5 = r 45 ||| bs (zb x) k := by
      rw [p1.2.2.2.1.2.2.2.1]; unfold aw; rw [upd_eq]
    rw [e5]
    have hbk : zb (r 45 ||| bs (zb x) k) k = zb (r 45) k := by
      rw [zb_or, zb_bs (by omega) (by omega)]; simp
    simp (disch := omega) only [zup_eq, zput_app, zput_twice, upd_same, nI_1, za2, zA2, zm2, za3, zA3, zm3, za4, zA4, zm4, za9, zA9, zm9, za10, zA10, zm10, za18, zA18, zm18, za27, zA27, zm27, za36, zA36, zm36, za48, zA48, zm48, za288, zA288, zm288, zcl, zinT, upd_ne, upd_eq, zlt, znlt, zl2, zn2_, zl3, zn3_, zl5, zn5_, zl9, zn9_, zl10, zn10_, zl16, zn16_, zl20, zn20_, zl40, zn40_, zl60, zn60_, zl76, zn76_, zl80, zn80_, zl288, zn288_, zl300, zn300_, zneg, Nat.reduceEqDiff, Nat.reduceAdd, ↓reduceIte, s_hasN, b2i_0]
    rw [zb_and, zb_not (by omega), hbk]
    cases hz : zb x k
    · simp only [Bool.false_and, ↓reduceIte]
      have e1 : bs (zb x) (k + 1) = bs (zb x) k := by rw [bs_1, hz]; rfl
      have e2 : clS r x (k + 1) = clS r x k := by rw [clS_1 r x hk, hz]; rfl
      rw [e1, e2] at ih
      exact ih σ1 f1 p1
    · obtain ⟨hkF, hka⟩ := hx k (by omega) hz
      rw [hka]
      simp only [Bool.not_false, Bool.and_self, Bool.true_eq_false, ↓reduceIte]
      refine k_31_0_i26 ?_
      rw [s_bit, e5]
      have hxor : (r 45 ||| bs (zb x) k) ^^^ zshl 1 (nI k) = r 45 ||| bs (zb x) (k + 1) := by
        apply zb_ext
        intro f hf
        rw [zb_xor, zb_or, zb_or, zb_one k (by omega) f hf, zb_bs (by omega) hf, zb_bs (by omega) hf]
        by_cases hfk : f = k
        · subst hfk; simp [hka, hz]
        · have : (f < k + 1) = (f < k) := propext (by omega)
          simp [hfk, this]
      rw [hxor]
      generalize hσ2 : zup σ1 26 5 (r 45 ||| bs (zb x) (k + 1)) = σ2
      have f2 : Fr (pm 26) σ1 σ2 := by rw [← hσ2]; exact Fr.up (by decide)
      have c2 : CM 26 c.1 (aw (clS r x k) (r 45 ||| bs (zb x) (k + 1))) σ2 := by
        obtain ⟨b1, b2, b3, b4, b5⟩ := p1.2.2.2.1
        rw [← hσ2]
        refine ⟨fun g hg => ?_, fun g hg hg2 => ?_, fun g hg hg2 => ?_, ?_, ?_⟩
        · have := b1 g hg
          unfold aw at this ⊢
          simp (disch := omega) only [zup_eq, zput_app, zput_twice, upd_same, nI_1, za2, zA2, zm2, za3, zA3, zm3, za4, zA4, zm4, za9, zA9, zm9, za10, zA10, zm10, za18, zA18, zm18, za27, zA27, zm27, za36, zA36, zm36, za48, zA48, zm48, za288, zA288, zm288, zcl, zinT, upd_ne, upd_eq, zlt, znlt, zl2, zn2_, zl3, zn3_, zl5, zn5_, zl9, zn9_, zl10, zn10_, zl16, zn16_, zl20, zn20_, zl40, zn40_, zl60, zn60_, zl76, zn76_, zl80, zn80_, zl288, zn288_, zl300, zn300_, zneg, Nat.reduceEqDiff, Nat.reduceAdd, ↓reduceIte] at this ⊢
          exact this
        · simp (disch := omega) only [zup_eq, zput_app, zput_twice, upd_same, nI_1, za2, zA2, zm2, za3, zA3, zm3, za4, zA4, zm4, za9, zA9, zm9, za10, zA10, zm10, za18, zA18, zm18, za27, zA27, zm27, za36, zA36, zm36, za48, zA48, zm48, za288, zA288, zm288, zcl, zinT, upd_ne, upd_eq, zlt, znlt, zl2, zn2_, zl3, zn3_, zl5, zn5_, zl9, zn9_, zl10, zn10_, zl16, zn16_, zl20, zn20_, zl40, zn40_, zl60, zn60_, zl76, zn76_, zl80, zn80_, zl288, zn288_, zl300, zn300_, zneg, Nat.reduceEqDiff, Nat.reduceAdd, ↓reduceIte]; exact b2 g hg hg2
        · simp (disch := omega) only [zup_eq, zput_app, zput_twice, upd_same, nI_1, za2, zA2, zm2, za3, zA3, zm3, za4, zA4, zm4, za9, zA9, zm9, za10, zA10, zm10, za18, zA18, zm18, za27, zA27, zm27, za36, zA36, zm36, za48, zA48, zm48, za288, zA288, zm288, zcl, zinT, upd_ne, upd_eq, zlt, znlt, zl2, zn2_, zl3, zn3_, zl5, zn5_, zl9, zn9_, zl10, zn10_, zl16, zn16_, zl20, zn20_, zl40, zn40_, zl60, zn60_, zl76, zn76_, zl80, zn80_, zl288, zn288_, zl300, zn300_, zneg, Nat.reduceEqDiff, Nat.reduceAdd, ↓reduceIte]; exact b3 g hg hg2
        · unfold aw; simp (disch := omega) only [zup_eq, zput_app, zput_twice, upd_same, nI_1, za2, zA2, zm2, za3, zA3, zm3, za4, zA4, zm4, za9, zA9, zm9, za10, zA10, zm10, za18, zA18, zm18, za27, zA27, zm27, za36, zA36, zm36, za48, zA48, zm48, za288, zA288, zm288, zcl, zinT, upd_ne, upd_eq, zlt, znlt, zl2, zn2_, zl3, zn3_, zl5, zn5_, zl9, zn9_, zl10, zn10_, zl16, zn16_, zl20, zn20_, zl40, zn40_, zl60, zn60_, zl76, zn76_, zl80, zn80_, zl288, zn288_, zl300, zn300_, zneg, Nat.reduceEqDiff, Nat.reduceAdd, ↓reduceIte]
        · unfold aw at b5 ⊢; simp (disch := omega) only [zup_eq, zput_app, zput_twice, upd_same, nI_1, za2, zA2, zm2, za3, zA3, zm3, za4, zA4, zm4, za9, zA9, zm9, za10, zA10, zm10, za18, zA18, zm18, za27, zA27, zm27, za36, zA36, zm36, za48, zA48, zm48, za288, zA288, zm288, zcl, zinT, upd_ne, upd_eq, zlt, znlt, zl2, zn2_, zl3, zn3_, zl5, zn5_, zl9, zn9_, zl10, zn10_, zl16, zn16_, zl20, zn20_, zl40, zn40_, zl60, zn60_, zl76, zn76_, zl80, zn80_, zl288, zn288_, zl300, zn300_, zneg, Nat.reduceEqDiff, Nat.reduceAdd, ↓reduceIte] at b5 ⊢; exact b5
      have e3 : gcl (aw (clS r x k) (r 45 ||| bs (zb x) (k + 1))) k = aw (clS r x (k + 1)) (r 45 ||| bs (zb x) (k + 1)) := by
        rw [clS_1 r x hk, if_pos hz]
        unfold gcl aw
        rw [upd_comm _ (i := 18 + k) (j := 45) (by omega), upd_comm _ (i := 27 + k) (j := 45) (by omega), upd_comm _ (i := 36 + k) (j := 45) (by omega)]
      refine c_drop23 c2 h9 hkF (fun σ3 f3 c3 => ?_)
      rw [e3] at c3
      exact ih σ3 (Fr.tr f1 (Fr.tr f2 f3)) (p1.row (Fr.tr f2 f3) c3 (aw_WR _ h9 (clS_WR (by omega) h9 h.2.2.2.2)))
  · intro σ1 f1 p1
    refine k_32_2 ?_
    rw [if_neg (by decide)]
    have e1 : bs (zb x) 9 = x := by
      apply zb_ext
      intro f hf
      rw [zb_bs (by decide) hf]
      cases hz : zb x f
      · simp
      · have := (hx f hf hz).1
        simp; omega
    have e2 : clS r x 9 = clS r x c.1 := by
      have : ∀ m, m + c.1 ≤ 9 → clS r x (c.1 + m) = clS r x c.1 := by
        intro m
        induction m with
        | zero => intro _; rfl
        | succ m ih =>
          intro hm
          rw [show c.1 + (m + 1) = c.1 + m + 1 by omega, clS_1 r x (by omega)]
          have hz : ¬ zb x (c.1 + m) = true := fun q => by have := (hx _ (by omega) q).1; omega
          rw [if_neg hz]
          exact ih (by omega)
      have := this (9 - c.1) (by omega)
      rw [show c.1 + (9 - c.1) = 9 by omega] at this
      exact this
    rw [e1, e2] at p1
    exact hq σ1 (fr_pm26 f1) p1
  · rw [clS_0]
    have e1 : r 45 ||| bs (zb x) 0 = r 45 := Int32.or_zero
    rw [e1]
    have e2 : aw r (r 45) = r := upd_self r 45
    rw [e2]
    exact h
