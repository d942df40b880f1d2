/-! the class's minute -/
def pm (mo o i : Nat) : Bool := decide (mo ≤ o ∧ o ≤ mo + 4)
def pw (W o i : Nat) : Bool := decide (o = 4 ∨ o = 6 ∨ (o = W ∧ 4 ≤ i) ∨ (W + 3 ≤ o ∧ o ≤ W + 8))
def p46 (o i : Nat) : Bool := decide (o = 4 ∨ o = 6)
/-- a moment (object mo and its four rows) holds what a row says of F faces -/
def CM (mo F : Nat) (r : Nat → Int32) (σ : zS) : Prop :=
  (∀ f, f < F → σ (mo + 1) f = r f ∧ σ (mo + 2) f = r (9 + f) ∧ σ (mo + 3) f = r (18 + f) ∧ σ (mo + 4) f = r (27 + f) ∧ zb (σ mo 4) f = decide (r (36 + f) = 1)) ∧
  (∀ f, F ≤ f → f < 9 → σ (mo + 2) f = 0 ∧ σ (mo + 3) f = -1 ∧ σ (mo + 4) f = -1) ∧
  (∀ f, F ≤ f → f < 32 → zb (σ mo 4) f = false) ∧ σ mo 5 = r 45 ∧ σ mo 6 = r 46
theorem CM.congr {mo F : Nat} {r r' : Nat → Int32} {σ : zS} (hF : F ≤ 9) (h : CM mo F r σ) (he : ∀ i, i < 47 → r i = r' i) : CM mo F r' σ := by
  obtain ⟨h1, h2, h3, h4, h5⟩ := h
  refine ⟨fun f hf => ?_, h2, h3, ?_, ?_⟩
  · rw [← he f (by omega), ← he (9 + f) (by omega), ← he (18 + f) (by omega), ← he (27 + f) (by omega), ← he (36 + f) (by omega)]; exact h1 f hf
  · rw [← he 45 (by omega)]; exact h4
  · rw [← he 46 (by omega)]; exact h5
theorem CM.fr {mo F : Nat} {r : Nat → Int32} {σ σ' : zS} {p : Nat → Nat → Bool} (h : CM mo F r σ) (hf : Fr p σ σ') (hp : ∀ o i, mo ≤ o → o ≤ mo + 4 → p o i = false) : CM mo F r σ' := by
  have e : ∀ o, mo ≤ o → o ≤ mo + 4 → σ' o = σ o := fun o h1 h2 => funext fun i => hf o i (hp o i h1 h2)
  unfold CM
  rw [e mo (by omega) (by omega), e (mo + 1) (by omega) (by omega), e (mo + 2) (by omega) (by omega), e (mo + 3) (by omega) (by omega), e (mo + 4) (by omega) (by omega)]
  exact h
theorem zb_andbit (x : Int32) {k : Nat} (hk : k < 32) : x &&& zshl 1 (nI k) = if zb x k then zshl 1 (nI k) else 0 := by
  apply zb_ext
  intro f hf
  rw [zb_and, zb_one k hk f hf]
  by_cases h : f = k
  · subst h
    cases hz : zb x f
    · simp [zb_0]
    · simp [zb_one f hk f hf]
  · cases hz : zb x k
    · simp [h, zb_0]
    · simp [h, zb_one k hk f hf]
theorem zb_all : ∀ F, F ≤ 9 → ∀ f, f < 32 → zb (zshl 1 (nI F) - 1) f = decide (f < F) := by decide +kernel
theorem c_plan14 {d : Nat} {σ : zS} {F f : Nat} {r : Nat → Int32} (hcm : CM 17 F r σ) (h9 : F ≤ 9) (hf : f < F) (x2 x3 : Int32) {x4 : Int32} (h4 : x4 = 0 ∨ x4 = 1) {Q : Int32 → zS → Prop}
    (h : ∀ σ', Fr (pm 17) σ σ' → CM 17 F (upd (upd (upd r (18 + f) x2) (27 + f) x3) (36 + f) x4) σ' → Q 0 σ') : ZC (d + 2) 27 [.ref 17, .int (nI f), .int x2, .int x3, .int x4] σ Q := by
  refine k_27_0_i17 ?_
  obtain ⟨h1, h2, h3, h5, h6⟩ := hcm
  have key : ∀ y : Int32, (∀ g, g < 32 → zb y g = if g = f then decide (x4 = 1) else zb (σ 17 4) g) → Q 0 (zput (zput (zput σ 20 (upd (σ 20) f x2)) 21 (upd (σ 21) f x3)) 17 (upd (σ 17) 4 y)) := by
    intro y hy
    refine h _ (Fr.tr (Fr.tr (Fr.put (fun i q => by simp [pm] at q)) (Fr.put (fun i q => by simp [pm] at q))) (Fr.put (fun i q => by simp [pm] at q))) ⟨fun g hg => ?_, fun g hg hg2 => ?_, fun g hg hg2 => ?_, ?_, ?_⟩
    · obtain ⟨a1, a2, a3, a4, a5⟩ := h1 g hg
      simp (disch := omega) only [zup_eq, zput_app, zput_twice, upd_same, nI_1, za2, zA2, zm2, za3, zA3, zm3, za4, zA4, zm4, za9, zA9, zm9, za10, zA10, zm10, za18, zA18, zm18, za27, zA27, zm27, za36, zA36, zm36, za48, zA48, zm48, za288, zA288, zm288, zcl, zinT, upd_ne, upd_eq, zlt, znlt, zl2, zn2_, zl3, zn3_, zl5, zn5_, zl9, zn9_, zl10, zn10_, zl16, zn16_, zl20, zn20_, zl40, zn40_, zl60, zn60_, zl76, zn76_, zl80, zn80_, zl288, zn288_, zl300, zn300_, zneg, Nat.reduceEqDiff, Nat.reduceAdd, ↓reduceIte, hy]
      by_cases hgf : g = f
      · subst hgf; simp (disch := omega) only [zup_eq, zput_app, zput_twice, upd_same, nI_1, za2, zA2, zm2, za3, zA3, zm3, za4, zA4, zm4, za9, zA9, zm9, za10, zA10, zm10, za18, zA18, zm18, za27, zA27, zm27, za36, zA36, zm36, za48, zA48, zm48, za288, zA288, zm288, zcl, zinT, upd_ne, upd_eq, zlt, znlt, zl2, zn2_, zl3, zn3_, zl5, zn5_, zl9, zn9_, zl10, zn10_, zl16, zn16_, zl20, zn20_, zl40, zn40_, zl60, zn60_, zl76, zn76_, zl80, zn80_, zl288, zn288_, zl300, zn300_, zneg, Nat.reduceEqDiff, Nat.reduceAdd, ↓reduceIte, a1, a2]; simp
      · simp (disch := omega) only [zup_eq, zput_app, zput_twice, upd_same, nI_1, za2, zA2, zm2, za3, zA3, zm3, za4, zA4, zm4, za9, zA9, zm9, za10, zA10, zm10, za18, zA18, zm18, za27, zA27, zm27, za36, zA36, zm36, za48, zA48, zm48, za288, zA288, zm288, zcl, zinT, upd_ne, upd_eq, zlt, znlt, zl2, zn2_, zl3, zn3_, zl5, zn5_, zl9, zn9_, zl10, zn10_, zl16, zn16_, zl20, zn20_, zl40, zn40_, zl60, zn60_, zl76, zn76_, zl80, zn80_, zl288, zn288_, zl300, zn300_, zneg, Nat.reduceEqDiff, Nat.reduceAdd, ↓reduceIte, a1, a2, a3, a4, a5, hgf]; simp
    · simp (disch := omega) only [zup_eq, zput_app, zput_twice, upd_same, nI_1, za2, zA2, zm2, za3, zA3, zm3, za4, zA4, zm4, za9, zA9, zm9, za10, zA10, zm10, za18, zA18, zm18, za27, zA27, zm27, za36, zA36, zm36, za48, zA48, zm48, za288, zA288, zm288, zcl, zinT, upd_ne, upd_eq, zlt, znlt, zl2, zn2_, zl3, zn3_, zl5, zn5_, zl9, zn9_, zl10, zn10_, zl16, zn16_, zl20, zn20_, zl40, zn40_, zl60, zn60_, zl76, zn76_, zl80, zn80_, zl288, zn288_, zl300, zn300_, zneg, Nat.reduceEqDiff, Nat.reduceAdd, ↓reduceIte]
      exact h2 g hg hg2
    · simp (disch := omega) only [zup_eq, zput_app, zput_twice, upd_same, nI_1, za2, zA2, zm2, za3, zA3, zm3, za4, zA4, zm4, za9, zA9, zm9, za10, zA10, zm10, za18, zA18, zm18, za27, zA27, zm27, za36, zA36, zm36, za48, zA48, zm48, za288, zA288, zm288, zcl, zinT, upd_ne, upd_eq, zlt, znlt, zl2, zn2_, zl3, zn3_, zl5, zn5_, zl9, zn9_, zl10, zn10_, zl16, zn16_, zl20, zn20_, zl40, zn40_, zl60, zn60_, zl76, zn76_, zl80, zn80_, zl288, zn288_, zl300, zn300_, zneg, Nat.reduceEqDiff, Nat.reduceAdd, ↓reduceIte, hy]
      rw [if_neg (by omega)]
      exact h3 g hg hg2
    · simp (disch := omega) only [zup_eq, zput_app, zput_twice, upd_same, nI_1, za2, zA2, zm2, za3, zA3, zm3, za4, zA4, zm4, za9, zA9, zm9, za10, zA10, zm10, za18, zA18, zm18, za27, zA27, zm27, za36, zA36, zm36, za48, zA48, zm48, za288, zA288, zm288, zcl, zinT, upd_ne, upd_eq, zlt, znlt, zl2, zn2_, zl3, zn3_, zl5, zn5_, zl9, zn9_, zl10, zn10_, zl16, zn16_, zl20, zn20_, zl40, zn40_, zl60, zn60_, zl76, zn76_, zl80, zn80_, zl288, zn288_, zl300, zn300_, zneg, Nat.reduceEqDiff, Nat.reduceAdd, ↓reduceIte]; exact h5
    · simp (disch := omega) only [zup_eq, zput_app, zput_twice, upd_same, nI_1, za2, zA2, zm2, za3, zA3, zm3, za4, zA4, zm4, za9, zA9, zm9, za10, zA10, zm10, za18, zA18, zm18, za27, zA27, zm27, za36, zA36, zm36, za48, zA48, zm48, za288, zA288, zm288, zcl, zinT, upd_ne, upd_eq, zlt, znlt, zl2, zn2_, zl3, zn3_, zl5, zn5_, zl9, zn9_, zl10, zn10_, zl16, zn16_, zl20, zn20_, zl40, zn40_, zl60, zn60_, zl76, zn76_, zl80, zn80_, zl288, zn288_, zl300, zn300_, zneg, Nat.reduceEqDiff, Nat.reduceAdd, ↓reduceIte]; exact h6
  simp (disch := omega) only [zup_eq, zput_app, zput_twice, upd_same, nI_1, za2, zA2, zm2, za3, zA3, zm3, za4, zA4, zm4, za9, zA9, zm9, za10, zA10, zm10, za18, zA18, zm18, za27, zA27, zm27, za36, zA36, zm36, za48, zA48, zm48, za288, zA288, zm288, zcl, zinT, upd_ne, upd_eq, zlt, znlt, zl2, zn2_, zl3, zn3_, zl5, zn5_, zl9, zn9_, zl10, zn10_, zl16, zn16_, zl20, zn20_, zl40, zn40_, zl60, zn60_, zl76, zn76_, zl80, zn80_, zl288, zn288_, zl300, zn300_, zneg, Nat.reduceEqDiff, Nat.reduceAdd, ↓reduceIte, s_bit]
  rcases h4 with rfl | rfl
  · rw [if_neg (by decide)]
    refine key _ (fun g hg => ?_)
    rw [zb_and, zb_not hg, zb_one f (by omega) g hg]
    by_cases hgf : g = f <;> simp [hgf]
  · rw [if_pos rfl]
    refine key _ (fun g hg => ?_)
    rw [zb_or, zb_one f (by omega) g hg]
    by_cases hgf : g = f <;> simp [hgf]
theorem c_drop14 {d : Nat} {σ : zS} {F f : Nat} {r : Nat → Int32} (hcm : CM 17 F r σ) (h9 : F ≤ 9) (hf : f < F) {Q : Int32 → zS → Prop}
    (h : ∀ σ', Fr (pm 17) σ σ' → CM 17 F (gcl r f) σ' → Q 0 σ') : ZC (d + 3) 28 [.ref 17, .int (nI f)] σ Q := by
  refine k_28_0_i17 ?_
  exact c_plan14 hcm h9 hf _ _ (Or.inl rfl) h
theorem c_tire14 {d : Nat} {σ : zS} {F f : Nat} {r : Nat → Int32} (hcm : CM 17 F r σ) (h9 : F ≤ 9) (hf : f < F) (x : Int32) {Q : Int32 → zS → Prop}
    (h : ∀ σ', Fr (pm 17) σ σ' → CM 17 F (upd r f (mx0 (mn9 (r f + x)))) σ' → Q 0 σ') : ZC (d + 2) 33 [.ref 17, .int (nI f), .int x] σ Q := by
  refine k_33_0_i17 ?_
  obtain ⟨h1, h2, h3, h5, h6⟩ := hcm
  have ev : (if 0 < (if r f + x < 9 then r f + x else 9) then (if r f + x < 9 then r f + x else 9) else 0) = mx0 (mn9 (r f + x)) := rfl
  simp (disch := omega) only [zup_eq, zput_app, zput_twice, upd_same, nI_1, za2, zA2, zm2, za3, zA3, zm3, za4, zA4, zm4, za9, zA9, zm9, za10, zA10, zm10, za18, zA18, zm18, za27, zA27, zm27, za36, zA36, zm36, za48, zA48, zm48, za288, zA288, zm288, zcl, zinT, upd_ne, upd_eq, zlt, znlt, zl2, zn2_, zl3, zn3_, zl5, zn5_, zl9, zn9_, zl10, zn10_, zl16, zn16_, zl20, zn20_, zl40, zn40_, zl60, zn60_, zl76, zn76_, zl80, zn80_, zl288, zn288_, zl300, zn300_, zneg, Nat.reduceEqDiff, Nat.reduceAdd, ↓reduceIte, s_min, s_max, (h1 f hf).1]
  rw [ev]
  refine h _ (Fr.put (fun i q => by simp [pm] at q)) ⟨fun g hg => ?_, fun g hg hg2 => ?_, fun g hg hg2 => ?_, ?_, ?_⟩
  · obtain ⟨a1, a2, a3, a4, a5⟩ := h1 g hg
    by_cases hgf : g = f
    · subst hgf; simp (disch := omega) only [zup_eq, zput_app, zput_twice, upd_same, nI_1, za2, zA2, zm2, za3, zA3, zm3, za4, zA4, zm4, za9, zA9, zm9, za10, zA10, zm10, za18, zA18, zm18, za27, zA27, zm27, za36, zA36, zm36, za48, zA48, zm48, za288, zA288, zm288, zcl, zinT, upd_ne, upd_eq, zlt, znlt, zl2, zn2_, zl3, zn3_, zl5, zn5_, zl9, zn9_, zl10, zn10_, zl16, zn16_, zl20, zn20_, zl40, zn40_, zl60, zn60_, zl76, zn76_, zl80, zn80_, zl288, zn288_, zl300, zn300_, zneg, Nat.reduceEqDiff, Nat.reduceAdd, ↓reduceIte, a2, a3, a4, a5]; simp
    · simp (disch := omega) only [zup_eq, zput_app, zput_twice, upd_same, nI_1, za2, zA2, zm2, za3, zA3, zm3, za4, zA4, zm4, za9, zA9, zm9, za10, zA10, zm10, za18, zA18, zm18, za27, zA27, zm27, za36, zA36, zm36, za48, zA48, zm48, za288, zA288, zm288, zcl, zinT, upd_ne, upd_eq, zlt, znlt, zl2, zn2_, zl3, zn3_, zl5, zn5_, zl9, zn9_, zl10, zn10_, zl16, zn16_, zl20, zn20_, zl40, zn40_, zl60, zn60_, zl76, zn76_, zl80, zn80_, zl288, zn288_, zl300, zn300_, zneg, Nat.reduceEqDiff, Nat.reduceAdd, ↓reduceIte, a1, a2, a3, a4, a5]; simp
  · simp (disch := omega) only [zup_eq, zput_app, zput_twice, upd_same, nI_1, za2, zA2, zm2, za3, zA3, zm3, za4, zA4, zm4, za9, zA9, zm9, za10, zA10, zm10, za18, zA18, zm18, za27, zA27, zm27, za36, zA36, zm36, za48, zA48, zm48, za288, zA288, zm288, zcl, zinT, upd_ne, upd_eq, zlt, znlt, zl2, zn2_, zl3, zn3_, zl5, zn5_, zl9, zn9_, zl10, zn10_, zl16, zn16_, zl20, zn20_, zl40, zn40_, zl60, zn60_, zl76, zn76_, zl80, zn80_, zl288, zn288_, zl300, zn300_, zneg, Nat.reduceEqDiff, Nat.reduceAdd, ↓reduceIte]; exact h2 g hg hg2
  · simp (disch := omega) only [zup_eq, zput_app, zput_twice, upd_same, nI_1, za2, zA2, zm2, za3, zA3, zm3, za4, zA4, zm4, za9, zA9, zm9, za10, zA10, zm10, za18, zA18, zm18, za27, zA27, zm27, za36, zA36, zm36, za48, zA48, zm48, za288, zA288, zm288, zcl, zinT, upd_ne, upd_eq, zlt, znlt, zl2, zn2_, zl3, zn3_, zl5, zn5_, zl9, zn9_, zl10, zn10_, zl16, zn16_, zl20, zn20_, zl40, zn40_, zl60, zn60_, zl76, zn76_, zl80, zn80_, zl288, zn288_, zl300, zn300_, zneg, Nat.reduceEqDiff, Nat.reduceAdd, ↓reduceIte]; exact h3 g hg hg2
  · simp (disch := omega) only [zup_eq, zput_app, zput_twice, upd_same, nI_1, za2, zA2, zm2, za3, zA3, zm3, za4, zA4, zm4, za9, zA9, zm9, za10, zA10, zm10, za18, zA18, zm18, za27, zA27, zm27, za36, zA36, zm36, za48, zA48, zm48, za288, zA288, zm288, zcl, zinT, upd_ne, upd_eq, zlt, znlt, zl2, zn2_, zl3, zn3_, zl5, zn5_, zl9, zn9_, zl10, zn10_, zl16, zn16_, zl20, zn20_, zl40, zn40_, zl60, zn60_, zl76, zn76_, zl80, zn80_, zl288, zn288_, zl300, zn300_, zneg, Nat.reduceEqDiff, Nat.reduceAdd, ↓reduceIte]; exact h5
  · simp (disch := omega) only [zup_eq, zput_app, zput_twice, upd_same, nI_1, za2, zA2, zm2, za3, zA3, zm3, za4, zA4, zm4, za9, zA9, zm9, za10, zA10, zm10, za18, zA18, zm18, za27, zA27, zm27, za36, zA36, zm36, za48, zA48, zm48, za288, zA288, zm288, zcl, zinT, upd_ne, upd_eq, zlt, znlt, zl2, zn2_, zl3, zn3_, zl5, zn5_, zl9, zn9_, zl10, zn10_, zl16, zn16_, zl20, zn20_, zl40, zn40_, zl60, zn60_, zl76, zn76_, zl80, zn80_, zl288, zn288_, zl300, zn300_, zneg, Nat.reduceEqDiff, Nat.reduceAdd, ↓reduceIte]; exact h6
theorem c_plan23 {d : Nat} {σ : zS} {F f : Nat} {r : Nat → Int32} (hcm : CM 26 F r σ) (h9 : F ≤ 9) (hf : f < F) (x2 x3 : Int32) {x4 : Int32} (h4 : x4 = 0 ∨ x4 = 1) {Q : Int32 → zS → Prop}
    (h : ∀ σ', Fr (pm 26) σ σ' → CM 26 F (upd (upd (upd r (18 + f) x2) (27 + f) x3) (36 + f) x4) σ' → Q 0 σ') : ZC (d + 2) 27 [.ref 26, .int (nI f), .int x2, .int x3, .int x4] σ Q := by
  refine k_27_0_i26 ?_
  obtain ⟨h1, h2, h3, h5, h6⟩ := hcm
  have key : ∀ y : Int32, (∀ g, g < 32 → zb y g = if g = f then decide (x4 = 1) else zb (σ 26 4) g) → Q 0 (zput (zput (zput σ 29 (upd (σ 29) f x2)) 30 (upd (σ 30) f x3)) 26 (upd (σ 26) 4 y)) := by
    intro y hy
    refine h _ (Fr.tr (Fr.tr (Fr.put (fun i q => by simp [pm] at q)) (Fr.put (fun i q => by simp [pm] at q))) (Fr.put (fun i q => by simp [pm] at q))) ⟨fun g hg => ?_, fun g hg hg2 => ?_, fun g hg hg2 => ?_, ?_, ?_⟩
    · obtain ⟨a1, a2, a3, a4, a5⟩ := h1 g hg
      simp (disch := omega) only [zup_eq, zput_app, zput_twice, upd_same, nI_1, za2, zA2, zm2, za3, zA3, zm3, za4, zA4, zm4, za9, zA9, zm9, za10, zA10, zm10, za18, zA18, zm18, za27, zA27, zm27, za36, zA36, zm36, za48, zA48, zm48, za288, zA288, zm288, zcl, zinT, upd_ne, upd_eq, zlt, znlt, zl2, zn2_, zl3, zn3_, zl5, zn5_, zl9, zn9_, zl10, zn10_, zl16, zn16_, zl20, zn20_, zl40, zn40_, zl60, zn60_, zl76, zn76_, zl80, zn80_, zl288, zn288_, zl300, zn300_, zneg, Nat.reduceEqDiff, Nat.reduceAdd, ↓reduceIte, hy]
      by_cases hgf : g = f
      · subst hgf; simp (disch := omega) only [zup_eq, zput_app, zput_twice, upd_same, nI_1, za2, zA2, zm2, za3, zA3, zm3, za4, zA4, zm4, za9, zA9, zm9, za10, zA10, zm10, za18, zA18, zm18, za27, zA27, zm27, za36, zA36, zm36, za48, zA48, zm48, za288, zA288, zm288, zcl, zinT, upd_ne, upd_eq, zlt, znlt, zl2, zn2_, zl3, zn3_, zl5, zn5_, zl9, zn9_, zl10, zn10_, zl16, zn16_, zl20, zn20_, zl40, zn40_, zl60, zn60_, zl76, zn76_, zl80, zn80_, zl288, zn288_, zl300, zn300_, zneg, Nat.reduceEqDiff, Nat.reduceAdd, ↓reduceIte, a1, a2]; simp
      · simp (disch := omega) only [zup_eq, zput_app, zput_twice, upd_same, nI_1, za2, zA2, zm2, za3, zA3, zm3, za4, zA4, zm4, za9, zA9, zm9, za10, zA10, zm10, za18, zA18, zm18, za27, zA27, zm27, za36, zA36, zm36, za48, zA48, zm48, za288, zA288, zm288, zcl, zinT, upd_ne, upd_eq, zlt, znlt, zl2, zn2_, zl3, zn3_, zl5, zn5_, zl9, zn9_, zl10, zn10_, zl16, zn16_, zl20, zn20_, zl40, zn40_, zl60, zn60_, zl76, zn76_, zl80, zn80_, zl288, zn288_, zl300, zn300_, zneg, Nat.reduceEqDiff, Nat.reduceAdd, ↓reduceIte, a1, a2, a3, a4, a5, hgf]; simp
    · simp (disch := omega) only [zup_eq, zput_app, zput_twice, upd_same, nI_1, za2, zA2, zm2, za3, zA3, zm3, za4, zA4, zm4, za9, zA9, zm9, za10, zA10, zm10, za18, zA18, zm18, za27, zA27, zm27, za36, zA36, zm36, za48, zA48, zm48, za288, zA288, zm288, zcl, zinT, upd_ne, upd_eq, zlt, znlt, zl2, zn2_, zl3, zn3_, zl5, zn5_, zl9, zn9_, zl10, zn10_, zl16, zn16_, zl20, zn20_, zl40, zn40_, zl60, zn60_, zl76, zn76_, zl80, zn80_, zl288, zn288_, zl300, zn300_, zneg, Nat.reduceEqDiff, Nat.reduceAdd, ↓reduceIte]
      exact h2 g hg hg2
    · simp (disch := omega) only [zup_eq, zput_app, zput_twice, upd_same, nI_1, za2, zA2, zm2, za3, zA3, zm3, za4, zA4, zm4, za9, zA9, zm9, za10, zA10, zm10, za18, zA18, zm18, za27, zA27, zm27, za36, zA36, zm36, za48, zA48, zm48, za288, zA288, zm288, zcl, zinT, upd_ne, upd_eq, zlt, znlt, zl2, zn2_, zl3, zn3_, zl5, zn5_, zl9, zn9_, zl10, zn10_, zl16, zn16_, zl20, zn20_, zl40, zn40_, zl60, zn60_, zl76, zn76_, zl80, zn80_, zl288, zn288_, zl300, zn300_, zneg, Nat.reduceEqDiff, Nat.reduceAdd, ↓reduceIte, hy]
      rw [if_neg (by omega)]
      exact h3 g hg hg2
    · simp (disch := omega) only [zup_eq, zput_app, zput_twice, upd_same, nI_1, za2, zA2, zm2, za3, zA3, zm3, za4, zA4, zm4, za9, zA9, zm9, za10, zA10, zm10, za18, zA18, zm18, za27, zA27, zm27, za36, zA36, zm36, za48, zA48, zm48, za288, zA288, zm288, zcl, zinT, upd_ne, upd_eq, zlt, znlt, zl2, zn2_, zl3, zn3_, zl5, zn5_, zl9, zn9_, zl10, zn10_, zl16, zn16_, zl20, zn20_, zl40, zn40_, zl60, zn60_, zl76, zn76_, zl80, zn80_, zl288, zn288_, zl300, zn300_, zneg, Nat.reduceEqDiff, Nat.reduceAdd, ↓reduceIte]; exact h5
    · simp (disch := omega) only [zup_eq, zput_app, zput_twice, upd_same, nI_1, za2, zA2, zm2, za3, zA3, zm3, za4, zA4, zm4, za9, zA9, zm9, za10, zA10, zm10, za18, zA18, zm18, za27, zA27, zm27, za36, zA36, zm36, za48, zA48, zm48, za288, zA288, zm288, zcl, zinT, upd_ne, upd_eq, zlt, znlt, zl2, zn2_, zl3, zn3_, zl5, zn5_, zl9, zn9_, zl10, zn10_, zl16, zn16_, zl20, zn20_, zl40, zn40_, zl60, zn60_, zl76, zn76_, zl80, zn80_, zl288, zn288_, zl300, zn300_, zneg, Nat.reduceEqDiff, Nat.reduceAdd, ↓reduceIte]; exact h6
  simp (disch := omega) only [zup_eq, zput_app, zput_twice, upd_same, nI_1, za2, zA2, zm2, za3, zA3, zm3, za4, zA4, zm4, za9, zA9, zm9, za10, zA10, zm10, za18, zA18, zm18, za27, zA27, zm27, za36, zA36, zm36, za48, zA48, zm48, za288, zA288, zm288, zcl, zinT, upd_ne, upd_eq, zlt, znlt, zl2, zn2_, zl3, zn3_, zl5, zn5_, zl9, zn9_, zl10, zn10_, zl16, zn16_, zl20, zn20_, zl40, zn40_, zl60, zn60_, zl76, zn76_, zl80, zn80_, zl288, zn288_, zl300, zn300_, zneg, Nat.reduceEqDiff, Nat.reduceAdd, ↓reduceIte, s_bit]
  rcases h4 with rfl | rfl
  · rw [if_neg (by decide)]
    refine key _ (fun g hg => ?_)
    rw [zb_and, zb_not hg, zb_one f (by omega) g hg]
    by_cases hgf : g = f <;> simp [hgf]
  · rw [if_pos rfl]
    refine key _ (fun g hg => ?_)
    rw [zb_or, zb_one f (by omega) g hg]
    by_cases hgf : g = f <;> simp [hgf]
theorem c_drop23 {d : Nat} {σ : zS} {F f : Nat} {r : Nat → Int32} (hcm : CM 26 F r σ) (h9 : F ≤ 9) (hf : f < F) {Q : Int32 → zS → Prop}
    (h : ∀ σ', Fr (pm 26) σ σ' → CM 26 F (gcl r f) σ' → Q 0 σ') : ZC (d + 3) 28 [.ref 26, .int (nI f)] σ Q := by
  refine k_28_0_i26 ?_
  exact c_plan23 hcm h9 hf _ _ (Or.inl rfl) h
theorem c_tire23 {d : Nat} {σ : zS} {F f : Nat} {r : Nat → Int32} (hcm : CM 26 F r σ) (h9 : F ≤ 9) (hf : f < F) (x : Int32) {Q : Int32 → zS → Prop}
    (h : ∀ σ', Fr (pm 26) σ σ' → CM 26 F (upd r f (mx0 (mn9 (r f + x)))) σ' → Q 0 σ') : ZC (d + 2) 33 [.ref 26, .int (nI f), .int x] σ Q := by
  refine k_33_0_i26 ?_
  obtain ⟨h1, h2, h3, h5, h6⟩ := hcm
  have ev : (if 0 < (if r f + x < 9 then r f + x else 9) then (if r f + x < 9 then r f + x else 9) else 0) = mx0 (mn9 (r f + x)) := rfl
  simp (disch := omega) only [zup_eq, zput_app, zput_twice, upd_same, nI_1, za2, zA2, zm2, za3, zA3, zm3, za4, zA4, zm4, za9, zA9, zm9, za10, zA10, zm10, za18, zA18, zm18, za27, zA27, zm27, za36, zA36, zm36, za48, zA48, zm48, za288, zA288, zm288, zcl, zinT, upd_ne, upd_eq, zlt, znlt, zl2, zn2_, zl3, zn3_, zl5, zn5_, zl9, zn9_, zl10, zn10_, zl16, zn16_, zl20, zn20_, zl40, zn40_, zl60, zn60_, zl76, zn76_, zl80, zn80_, zl288, zn288_, zl300, zn300_, zneg, Nat.reduceEqDiff, Nat.reduceAdd, ↓reduceIte, s_min, s_max, (h1 f hf).1]
  rw [ev]
  refine h _ (Fr.put (fun i q => by simp [pm] at q)) ⟨fun g hg => ?_, fun g hg hg2 => ?_, fun g hg hg2 => ?_, ?_, ?_⟩
  · obtain ⟨a1, a2, a3, a4, a5⟩ := h1 g hg
    by_cases hgf : g = f
    · subst hgf; simp (disch := omega) only [zup_eq, zput_app, zput_twice, upd_same, nI_1, za2, zA2, zm2, za3, zA3, zm3, za4, zA4, zm4, za9, zA9, zm9, za10, zA10, zm10, za18, zA18, zm18, za27, zA27, zm27, za36, zA36, zm36, za48, zA48, zm48, za288, zA288, zm288, zcl, zinT, upd_ne, upd_eq, zlt, znlt, zl2, zn2_, zl3, zn3_, zl5, zn5_, zl9, zn9_, zl10, zn10_, zl16, zn16_, zl20, zn20_, zl40, zn40_, zl60, zn60_, zl76, zn76_, zl80, zn80_, zl288, zn288_, zl300, zn300_, zneg, Nat.reduceEqDiff, Nat.reduceAdd, ↓reduceIte, a2, a3, a4, a5]; simp
    · simp (disch := omega) only [zup_eq, zput_app, zput_twice, upd_same, nI_1, za2, zA2, zm2, za3, zA3, zm3, za4, zA4, zm4, za9, zA9, zm9, za10, zA10, zm10, za18, zA18, zm18, za27, zA27, zm27, za36, zA36, zm36, za48, zA48, zm48, za288, zA288, zm288, zcl, zinT, upd_ne, upd_eq, zlt, znlt, zl2, zn2_, zl3, zn3_, zl5, zn5_, zl9, zn9_, zl10, zn10_, zl16, zn16_, zl20, zn20_, zl40, zn40_, zl60, zn60_, zl76, zn76_, zl80, zn80_, zl288, zn288_, zl300, zn300_, zneg, Nat.reduceEqDiff, Nat.reduceAdd, ↓reduceIte, a1, a2, a3, a4, a5]; simp
  · simp (disch := omega) only [zup_eq, zput_app, zput_twice, upd_same, nI_1, za2, zA2, zm2, za3, zA3, zm3, za4, zA4, zm4, za9, zA9, zm9, za10, zA10, zm10, za18, zA18, zm18, za27, zA27, zm27, za36, zA36, zm36, za48, zA48, zm48, za288, zA288, zm288, zcl, zinT, upd_ne, upd_eq, zlt, znlt, zl2, zn2_, zl3, zn3_, zl5, zn5_, zl9, zn9_, zl10, zn10_, zl16, zn16_, zl20, zn20_, zl40, zn40_, zl60, zn60_, zl76, zn76_, zl80, zn80_, zl288, zn288_, zl300, zn300_, zneg, Nat.reduceEqDiff, Nat.reduceAdd, ↓reduceIte]; exact h2 g hg hg2
  · simp (disch := omega) only [zup_eq, zput_app, zput_twice, upd_same, nI_1, za2, zA2, zm2, za3, zA3, zm3, za4, zA4, zm4, za9, zA9, zm9, za10, zA10, zm10, za18, zA18, zm18, za27, zA27, zm27, za36, zA36, zm36, za48, zA48, zm48, za288, zA288, zm288, zcl, zinT, upd_ne, upd_eq, zlt, znlt, zl2, zn2_, zl3, zn3_, zl5, zn5_, zl9, zn9_, zl10, zn10_, zl16, zn16_, zl20, zn20_, zl40, zn40_, zl60, zn60_, zl76, zn76_, zl80, zn80_, zl288, zn288_, zl300, zn300_, zneg, Nat.reduceEqDiff, Nat.reduceAdd, ↓reduceIte]; exact h3 g hg hg2
  · simp (disch := omega) only [zup_eq, zput_app, zput_twice, upd_same, nI_1, za2, zA2, zm2, za3, zA3, zm3, za4, zA4, zm4, za9, zA9, zm9, za10, zA10, zm10, za18, zA18, zm18, za27, zA27, zm27, za36, zA36, zm36, za48, zA48, zm48, za288, zA288, zm288, zcl, zinT, upd_ne, upd_eq, zlt, znlt, zl2, zn2_, zl3, zn3_, zl5, zn5_, zl9, zn9_, zl10, zn10_, zl16, zn16_, zl20, zn20_, zl40, zn40_, zl60, zn60_, zl76, zn76_, zl80, zn80_, zl288, zn288_, zl300, zn300_, zneg, Nat.reduceEqDiff, Nat.reduceAdd, ↓reduceIte]; exact h5
  · simp (disch := omega) only [zup_eq, zput_app, zput_twice, upd_same, nI_1, za2, zA2, zm2, za3, zA3, zm3, za4, zA4, zm4, za9, zA9, zm9, za10, zA10, zm10, za18, zA18, zm18, za27, zA27, zm27, za36, zA36, zm36, za48, zA48, zm48, za288, zA288, zm288, zcl, zinT, upd_ne, upd_eq, zlt, znlt, zl2, zn2_, zl3, zn3_, zl5, zn5_, zl9, zn9_, zl10, zn10_, zl16, zn16_, zl20, zn20_, zl40, zn40_, zl60, zn60_, zl76, zn76_, zl80, zn80_, zl288, zn288_, zl300, zn300_, zneg, Nat.reduceEqDiff, Nat.reduceAdd, ↓reduceIte]; exact h6
