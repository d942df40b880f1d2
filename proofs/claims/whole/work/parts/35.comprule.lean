/-! the class reads the rule -/
def pp (o i : Nat) : Bool := decide ((o = 1 ∧ i = 2) ∨ (o = 8 ∧ i = 1) ∨ o = 9)
def HL (l : List Int32) (σ : zS) : Prop := σ 8 1 = nI l.length ∧ ∀ i, i < l.length → σ 9 i = l.getD i 0
def PP (C : Nat → Nat) (L : Nat) (l0 : List Int32) (r : PR) (σ σ' : zS) : Prop := Fr pp σ σ' ∧ TC C L r.2.1 σ' ∧ (∃ s', s' ≤ 40 ∧ σ' 8 1 = nI s') ∧ (r.1 = true → HL (l0 ++ r.2.2) σ')
/-- method mi, called at depth D with the depth dp, reads as f says -/
def CX (C : Nat → Nat) (L D mi dp : Nat) (f : Nat → PR) : Prop := ∀ a l0 (σ : zS), TC C L a σ → HL l0 σ → l0.length ≤ a → ∀ Q : Int32 → zS → Prop, (∀ σ', PP C L l0 (f a) σ σ' → Q (b2i (f a).1) σ') → ZC D mi [.ref 8, .int (nI dp)] σ Q
theorem TC.fp {C : Nat → Nat} {L a b : Nat} {σ σ' : zS} (h : TC C L a σ) (hf : Fr pp σ σ') (h2 : σ' 1 2 = nI b) (hb : b ≤ L) : TC C L b σ' :=
  TC.fr h (fun i => hf 2 i (by simp [pp])) (hf 1 3 (by decide)) h2 hb
theorem HL.upto {l : List Int32} {σ : zS} (h : HL l σ) (hl : l.length ≤ 40) : ∃ s', s' ≤ 40 ∧ σ 8 1 = nI s' := ⟨l.length, hl, h.1⟩
theorem HL.fr {l : List Int32} {σ σ' : zS} (h : HL l σ) (h8 : σ' 8 1 = σ 8 1) (h9 : ∀ i, σ' 9 i = σ 9 i) : HL l σ' := ⟨h8.trans h.1, fun i hi => (h9 i).trans (h.2 i hi)⟩
theorem step_pp {σ : zS} {x : Int32} : Fr pp σ (zup σ 1 2 x) := Fr.up (by decide)
theorem HL.step {l : List Int32} {σ : zS} {x : Int32} (h : HL l σ) : HL l (zup σ 1 2 x) := HL.fr h (by simp (disch := omega) only [zup_eq, zput_app, zput_twice, upd_same, nI_1, za2, zA2, zm2, za3, zA3, zm3, za4, zA4, zm4, za9, zA9, zm9, za10, zA10, zm10, za18, zA18, zm18, za27, zA27, zm27, za36, zA36, zm36, za48, zA48, zm48, za288, zA288, zm288, zcl, zinT, upd_ne, upd_eq, zlt, znlt, zl2, zn2_, zl3, zn3_, zl5, zn5_, zl9, zn9_, zl10, zn10_, zl16, zn16_, zl20, zn20_, zl40, zn40_, zl60, zn60_, zl76, zn76_, zl80, zn80_, zl288, zn288_, zl300, zn300_, zneg, Nat.reduceEqDiff, Nat.reduceAdd, ↓reduceIte]) (fun i => by simp (disch := omega) only [zup_eq, zput_app, zput_twice, upd_same, nI_1, za2, zA2, zm2, za3, zA3, zm3, za4, zA4, zm4, za9, zA9, zm9, za10, zA10, zm10, za18, zA18, zm18, za27, zA27, zm27, za36, zA36, zm36, za48, zA48, zm48, za288, zA288, zm288, zcl, zinT, upd_ne, upd_eq, zlt, znlt, zl2, zn2_, zl3, zn3_, zl5, zn5_, zl9, zn9_, zl10, zn10_, zl16, zn16_, zl20, zn20_, zl40, zn40_, zl60, zn60_, zl76, zn76_, zl80, zn80_, zl288, zn288_, zl300, zn300_, zneg, Nat.reduceEqDiff, Nat.reduceAdd, ↓reduceIte])
theorem c_put {σ : zS} {x : Int32} {d : Nat} {Q : Int32 → zS → Prop} (hs : ∃ s', s' ≤ 40 ∧ σ 8 1 = nI s') (h : ∀ σ', Fr pp σ σ' → σ' 1 2 = σ 1 2 → (∃ s', s' ≤ 40 ∧ σ' 8 1 = nI s') → (∀ l0, HL l0 σ → l0.length < 40 → HL (l0 ++ [x]) σ') → Q 0 σ') : ZC (d + 1) 47 [.ref 8, .int x] σ Q := by
  obtain ⟨s, hs1, hs2⟩ := hs
  refine k_47_0 ?_
  by_cases hq : s < 40
  · simp (disch := omega) only [hs2, zup_eq, zput_app, zput_twice, upd_same, nI_1, za2, zA2, zm2, za3, zA3, zm3, za4, zA4, zm4, za9, zA9, zm9, za10, zA10, zm10, za18, zA18, zm18, za27, zA27, zm27, za36, zA36, zm36, za48, zA48, zm48, za288, zA288, zm288, zcl, zinT, upd_ne, upd_eq, zlt, znlt, zl2, zn2_, zl3, zn3_, zl5, zn5_, zl9, zn9_, zl10, zn10_, zl16, zn16_, zl20, zn20_, zl40, zn40_, zl60, zn60_, zl76, zn76_, zl80, zn80_, zl288, zn288_, zl300, zn300_, zneg, Nat.reduceEqDiff, Nat.reduceAdd, ↓reduceIte]
    refine h _ (Fr.tr (Fr.put (fun i q => by simp [pp] at q)) (Fr.put (fun i q => ?_))) ?_ ⟨s + 1, by omega, ?_⟩ (fun l0 hl hlen => ⟨?_, fun i hi => ?_⟩)
    · have hi : i ≠ 1 := by rintro rfl; simp [pp] at q
      rw [upd_ne hi]; simp (disch := omega) only [zup_eq, zput_app, zput_twice, upd_same, nI_1, za2, zA2, zm2, za3, zA3, zm3, za4, zA4, zm4, za9, zA9, zm9, za10, zA10, zm10, za18, zA18, zm18, za27, zA27, zm27, za36, zA36, zm36, za48, zA48, zm48, za288, zA288, zm288, zcl, zinT, upd_ne, upd_eq, zlt, znlt, zl2, zn2_, zl3, zn3_, zl5, zn5_, zl9, zn9_, zl10, zn10_, zl16, zn16_, zl20, zn20_, zl40, zn40_, zl60, zn60_, zl76, zn76_, zl80, zn80_, zl288, zn288_, zl300, zn300_, zneg, Nat.reduceEqDiff, Nat.reduceAdd, ↓reduceIte]
    · simp (disch := omega) only [zup_eq, zput_app, zput_twice, upd_same, nI_1, za2, zA2, zm2, za3, zA3, zm3, za4, zA4, zm4, za9, zA9, zm9, za10, zA10, zm10, za18, zA18, zm18, za27, zA27, zm27, za36, zA36, zm36, za48, zA48, zm48, za288, zA288, zm288, zcl, zinT, upd_ne, upd_eq, zlt, znlt, zl2, zn2_, zl3, zn3_, zl5, zn5_, zl9, zn9_, zl10, zn10_, zl16, zn16_, zl20, zn20_, zl40, zn40_, zl60, zn60_, zl76, zn76_, zl80, zn80_, zl288, zn288_, zl300, zn300_, zneg, Nat.reduceEqDiff, Nat.reduceAdd, ↓reduceIte]
    · simp (disch := omega) only [zup_eq, zput_app, zput_twice, upd_same, nI_1, za2, zA2, zm2, za3, zA3, zm3, za4, zA4, zm4, za9, zA9, zm9, za10, zA10, zm10, za18, zA18, zm18, za27, zA27, zm27, za36, zA36, zm36, za48, zA48, zm48, za288, zA288, zm288, zcl, zinT, upd_ne, upd_eq, zlt, znlt, zl2, zn2_, zl3, zn3_, zl5, zn5_, zl9, zn9_, zl10, zn10_, zl16, zn16_, zl20, zn20_, zl40, zn40_, zl60, zn60_, zl76, zn76_, zl80, zn80_, zl288, zn288_, zl300, zn300_, zneg, Nat.reduceEqDiff, Nat.reduceAdd, ↓reduceIte]
    · have e : nI s = nI l0.length := by rw [← hs2]; exact hl.1
      rw [nI_eq (by omega) (by omega)] at e
      simp (disch := omega) only [zup_eq, zput_app, zput_twice, upd_same, nI_1, za2, zA2, zm2, za3, zA3, zm3, za4, zA4, zm4, za9, zA9, zm9, za10, zA10, zm10, za18, zA18, zm18, za27, zA27, zm27, za36, zA36, zm36, za48, zA48, zm48, za288, zA288, zm288, zcl, zinT, upd_ne, upd_eq, zlt, znlt, zl2, zn2_, zl3, zn3_, zl5, zn5_, zl9, zn9_, zl10, zn10_, zl16, zn16_, zl20, zn20_, zl40, zn40_, zl60, zn60_, zl76, zn76_, zl80, zn80_, zl288, zn288_, zl300, zn300_, zneg, Nat.reduceEqDiff, Nat.reduceAdd, ↓reduceIte]
      rw [List.length_append, e]; rfl
    · have e : nI s = nI l0.length := by rw [← hs2]; exact hl.1
      rw [nI_eq (by omega) (by omega)] at e
      simp (disch := omega) only [zup_eq, zput_app, zput_twice, upd_same, nI_1, za2, zA2, zm2, za3, zA3, zm3, za4, zA4, zm4, za9, zA9, zm9, za10, zA10, zm10, za18, zA18, zm18, za27, zA27, zm27, za36, zA36, zm36, za48, zA48, zm48, za288, zA288, zm288, zcl, zinT, upd_ne, upd_eq, zlt, znlt, zl2, zn2_, zl3, zn3_, zl5, zn5_, zl9, zn9_, zl10, zn10_, zl16, zn16_, zl20, zn20_, zl40, zn40_, zl60, zn60_, zl76, zn76_, zl80, zn80_, zl288, zn288_, zl300, zn300_, zneg, Nat.reduceEqDiff, Nat.reduceAdd, ↓reduceIte]
      rw [List.length_append] at hi
      have hi' : i < l0.length + 1 := hi
      by_cases hil : i = l0.length
      · rw [hil, e, upd_eq]
        simp
      · rw [upd_ne (by omega), hl.2 i (by omega)]
        simp only [List.getD_eq_getElem?_getD]
        rw [List.getElem?_append_left (by omega)]
  · simp (disch := omega) only [hs2, zup_eq, zput_app, zput_twice, upd_same, nI_1, za2, zA2, zm2, za3, zA3, zm3, za4, zA4, zm4, za9, zA9, zm9, za10, zA10, zm10, za18, zA18, zm18, za27, zA27, zm27, za36, zA36, zm36, za48, zA48, zm48, za288, zA288, zm288, zcl, zinT, upd_ne, upd_eq, zlt, znlt, zl2, zn2_, zl3, zn3_, zl5, zn5_, zl9, zn9_, zl10, zn10_, zl16, zn16_, zl20, zn20_, zl40, zn40_, zl60, zn60_, zl76, zn76_, zl80, zn80_, zl288, zn288_, zl300, zn300_, zneg, Nat.reduceEqDiff, Nat.reduceAdd, ↓reduceIte]
    exact h σ Fr.rf rfl ⟨s, hs1, hs2⟩ (fun l0 hl hlen => by
      have e : nI s = nI l0.length := by rw [← hs2]; exact hl.1
      rw [nI_eq (by omega) (by omega)] at e
      omega)
section CRULE
variable {C : Nat → Nat} {L : Nat}
theorem c_valueOf {x : Int32} {n : Nat} (hx : chR x n) {d : Nat} {σ : zS} {Q : Int32 → zS → Prop} (h : Q (if vof n = 99 then -1 else nI (vof n)) σ) : ZC (d + 1) 54 [.int x] σ Q := by
  refine k_54_0 ?_
  have e : ∀ c, c < 128 → ((x = nI c) = (n = c)) := fun c hc => chR_eq hx hc
  simp only [show (x = 105) = (n = 105) from e 105 (by decide), show (x = 106) = (n = 106) from e 106 (by decide), show (x = 107) = (n = 107) from e 107 (by decide), show (x = 108) = (n = 108) from e 108 (by decide), show (x = 109) = (n = 109) from e 109 (by decide), show (x = 110) = (n = 110) from e 110 (by decide), show (x = 111) = (n = 111) from e 111 (by decide), show (x = 112) = (n = 112) from e 112 (by decide), show (x = 113) = (n = 113) from e 113 (by decide), show (x = 114) = (n = 114) from e 114 (by decide), show (x = 115) = (n = 115) from e 115 (by decide), show (x = 116) = (n = 116) from e 116 (by decide), show (x = 117) = (n = 117) from e 117 (by decide), show (x = 118) = (n = 118) from e 118 (by decide), show (x = 119) = (n = 119) from e 119 (by decide), show (x = 120) = (n = 120) from e 120 (by decide), show (x = 121) = (n = 121) from e 121 (by decide)]
  have e2 : ∀ m, n = m → Q (if vof m = 99 then -1 else nI (vof m)) σ := fun m q => by rw [← q]; exact h
  have e3 : vof n = 99 → Q (-1) σ := fun q => by rw [q] at h; exact h
  by_cases q105 : n = 105
  · rw [if_pos q105]; exact e2 105 q105
  rw [if_neg q105]
  by_cases q106 : n = 106
  · rw [if_pos q106]; exact e2 106 q106
  rw [if_neg q106]
  by_cases q107 : n = 107
  · rw [if_pos q107]; exact e2 107 q107
  rw [if_neg q107]
  by_cases q108 : n = 108
  · rw [if_pos q108]; exact e2 108 q108
  rw [if_neg q108]
  by_cases q109 : n = 109
  · rw [if_pos q109]; exact e2 109 q109
  rw [if_neg q109]
  by_cases q110 : n = 110
  · rw [if_pos q110]; exact e2 110 q110
  rw [if_neg q110]
  by_cases q111 : n = 111
  · rw [if_pos q111]; exact e2 111 q111
  rw [if_neg q111]
  by_cases q112 : n = 112
  · rw [if_pos q112]; exact e2 112 q112
  rw [if_neg q112]
  by_cases q113 : n = 113
  · rw [if_pos q113]; exact e2 113 q113
  rw [if_neg q113]
  by_cases q114 : n = 114
  · rw [if_pos q114]; exact e2 114 q114
  rw [if_neg q114]
  by_cases q115 : n = 115
  · rw [if_pos q115]; exact e2 115 q115
  rw [if_neg q115]
  by_cases q116 : n = 116
  · rw [if_pos q116]; exact e2 116 q116
  rw [if_neg q116]
  by_cases q117 : n = 117
  · rw [if_pos q117]; exact e2 117 q117
  rw [if_neg q117]
  by_cases q118 : n = 118
  · rw [if_pos q118]; exact e2 118 q118
  rw [if_neg q118]
  by_cases q119 : n = 119
  · rw [if_pos q119]; exact e2 119 q119
  rw [if_neg q119]
  by_cases q120 : n = 120
  · rw [if_pos q120]; exact e2 120 q120
  rw [if_neg q120]
  by_cases q121 : n = 121
  · rw [if_pos q121]; exact e2 121 q121
  rw [if_neg q121]
  refine e3 ?_
  unfold vof
  rw [if_neg q116, if_neg q121, if_neg q107, if_neg q110, if_neg q119, if_neg q109, if_neg q105, if_neg q106, if_neg q120]
theorem c_restOfNumber {d : Nat} {σ : zS} {a v : Nat} (h : TC C L a σ) (hC : ∀ i, L ≤ i → C i = 999) {Q : Int32 → zS → Prop} (hq : ∀ σ', (∃ x, σ' = zup σ 1 2 x) → TC C L (pNum C 2 a v).1 σ' → Q (nI (pNum C 2 a v).2) σ') : ZC (d + 4) 53 [.ref 8, .int (nI v)] σ Q := by
  refine k_53_0 ?_
  have loop : ∀ m, m ≤ 2 → ∀ a v (σ1 : zS) w, TC C L a σ1 → (∃ x, σ1 = zup σ 1 2 x) → (∀ σ', (∃ x, σ' = zup σ 1 2 x) → TC C L (pNum C m a v).1 σ' → Q (nI (pNum C m a v).2) σ') → ∀ x1 : Int32, Z (d + 3) 53 Q 4 [.ref 8, .int x1, .int (nI v), .int (nI (3 - m)), w] [] σ1 := by
    intro m
    induction m with
    | zero =>
      intro _ a v σ1 w ht he hq x1
      refine k_53_4 ?_
      rw [if_neg (by decide)]
      exact hq σ1 he ht
    | succ m ih =>
      intro hm a v σ1 w ht he hq x1
      refine k_53_4 ?_
      have e3 : (nI (3 - (m + 1)) < 3) = True := zlt (a := 3 - (m + 1)) (b := 3) (by omega) (by decide)
      have e4 : nI (3 - (m + 1)) + 1 = nI (3 - m) := by rw [nI_1]; congr 1; omega
      simp only [e3, ↓reduceIte, e4]
      refine c_digit ht (lo := 0) (by decide) (fun hr => ?_) (fun hr => ?_)
      · have hne : ¬ (nI (C a - 48) = -1) := by
          have : ∀ k, k < 10 → ¬ (nI k = -1) := by decide
          exact this _ (by omega)
        rw [if_neg hne, show (10 : Int32) * nI v = nI (10 * v) from zm10 v, nI_add]
        have haL := inL (L := L) hC (a := a) (by omega)
        have ht2 := TC.to ht (b := a + 1) (by omega)
        refine ih (by omega) (a + 1) _ _ _ ht2 ?_ ?_ x1
        · obtain ⟨x, rfl⟩ := he
          refine ⟨nI (a + 1), ?_⟩
          simp (disch := omega) only [zup_eq, zput_app, zput_twice, upd_same, nI_1, za2, zA2, zm2, za3, zA3, zm3, za4, zA4, zm4, za9, zA9, zm9, za10, zA10, zm10, za18, zA18, zm18, za27, zA27, zm27, za36, zA36, zm36, za48, zA48, zm48, za288, zA288, zm288, zcl, zinT, upd_ne, upd_eq, zlt, znlt, zl2, zn2_, zl3, zn3_, zl5, zn5_, zl9, zn9_, zl10, zn10_, zl16, zn16_, zl20, zn20_, zl40, zn40_, zl60, zn60_, zl76, zn76_, zl80, zn80_, zl288, zn288_, zl300, zn300_, zneg, Nat.reduceEqDiff, Nat.reduceAdd, ↓reduceIte]
        · intro σ' h1 h2
          have e5 : pNum C (m + 1) a v = pNum C m (a + 1) (10 * v + (C a - 48)) := by
            conv => lhs; unfold pNum
            rw [if_pos ⟨by omega, by omega⟩]
          rw [e5] at hq
          exact hq σ' h1 h2
      · rw [if_pos rfl]
        have e6 : ∀ n, pNum C n a v = (a, v) := by
          intro n
          cases n with
          | zero => rfl
          | succ n => unfold pNum; rw [if_neg (by omega)]
        refine ih (by omega) a v _ _ ht he ?_ x1
        rw [e6] at hq ⊢
        exact hq
  exact loop 2 (by decide) a v σ _ h ⟨σ 1 2, by rw [zup_eq, upd_self, zput_self]⟩ hq _
theorem gi_or (r : PR) : r.1 = true ∨ r.1 = false := by cases r.1 <;> simp
theorem c_thing (hC : ∀ i, L ≤ i → C i = 999) (hL : L ≤ 40) {e dp : Nat} {ok : Bool} {sub : Nat → PR} (hdp : dp ≤ 4) (hok : ok = decide (dp < 4)) (hgd : ok = true → ∀ a, a ≤ L → Gd L a (sub a)) (hsub : ok = true → CX C L (e + 4) 48 (dp + 1) sub) : CX C L (e + 5) 52 dp (pThing C sub ok) := by
  intro a l0 σ ht hl hla Q hq
  have haL : a ≤ L := ht.2.2.2.2.2
  have hup : ∃ s', s' ≤ 40 ∧ σ 8 1 = nI s' := HL.upto hl (by omega)
  refine k_52_0 ?_
  refine c_peek ht (fun x hx => ?_)
  simp only [show (x = 40) = (C a = 40) from chR_eq hx (c := 40) (by decide)]
  unfold pThing at hq
  by_cases h40 : C a = 40
  · have haL2 := inL (L := L) hC (a := a) (by omega)
    rw [if_pos h40]
    rw [if_pos h40] at hq
    cases ok
    · have hd : ¬ (nI dp < 4) := nI_nlt (a := dp) (b := 4) (by have := (decide_eq_false_iff_not.mp hok.symm); omega) (by omega)
      rw [if_neg hd]
      exact hq σ ⟨Fr.rf, ht, hup, fun q => by cases q⟩
    · have hd : dp < 4 := of_decide_eq_true hok.symm
      rw [if_pos (show nI dp < 4 from nI_lt (b := 4) hd (by decide)), c_step ht, nI_1]
      simp only [↓reduceIte] at hq
      refine hsub rfl (a + 1) l0 _ (TC.to ht haL2) (HL.step hl) (by omega) _ (fun σ1 p1 => ?_)
      obtain ⟨f1, t1, u1, g1⟩ := p1
      obtain ⟨m1, m2, m3⟩ := hgd rfl (a + 1) (by omega)
      have f01 : Fr pp σ σ1 := Fr.tr step_pp f1
      cases hr : (sub (a + 1)).1
      · rw [hr] at hq
        rw [if_pos (by decide)]
        simp only [Bool.false_eq_true, ↓reduceIte] at hq
        exact hq σ1 ⟨f01, t1, u1, fun q => by cases q⟩
      · rw [hr] at hq g1
        rw [if_neg (by decide)]
        simp only [↓reduceIte] at hq
        refine c_pick t1 (c := 41) (by decide) (fun hc => ?_) (fun hc => ?_)
        · rw [if_neg (by decide)]
          rw [if_pos hc] at hq
          have := inL (L := L) hC (a := (sub (a + 1)).2.1) (by omega)
          refine hq _ ⟨Fr.tr f01 step_pp, TC.to t1 (by show (sub (a + 1)).2.1 + 1 ≤ L; omega), ?_, fun _ => HL.step (g1 rfl)⟩
          obtain ⟨s, s1, s2⟩ := u1
          exact ⟨s, s1, by simp (disch := omega) only [zup_eq, zput_app, zput_twice, upd_same, nI_1, za2, zA2, zm2, za3, zA3, zm3, za4, zA4, zm4, za9, zA9, zm9, za10, zA10, zm10, za18, zA18, zm18, za27, zA27, zm27, za36, zA36, zm36, za48, zA48, zm48, za288, zA288, zm288, zcl, zinT, upd_ne, upd_eq, zlt, znlt, zl2, zn2_, zl3, zn3_, zl5, zn5_, zl9, zn9_, zl10, zn10_, zl16, zn16_, zl20, zn20_, zl40, zn40_, zl60, zn60_, zl76, zn76_, zl80, zn80_, zl288, zn288_, zl300, zn300_, zneg, Nat.reduceEqDiff, Nat.reduceAdd, ↓reduceIte]; exact s2⟩
        · rw [if_pos rfl]
          rw [if_neg hc] at hq
          exact hq σ1 ⟨f01, t1, u1, fun q => by cases q⟩
  · rw [if_neg h40]
    rw [if_neg h40] at hq
    refine c_digit ht (lo := 0) (by decide) (fun hr => ?_) (fun hr => ?_)
    · have hne : ¬ (nI (C a - 48) = -1) := by
        have : ∀ k, k < 10 → ¬ (nI k = -1) := by decide
        exact this _ (by omega)
      rw [if_neg hne]
      rw [if_pos (show 48 ≤ C a ∧ C a ≤ 57 by omega)] at hq
      have haL2 := inL (L := L) hC (a := a) (by omega)
      refine c_restOfNumber (TC.to ht haL2) hC (fun σ1 h1 t1 => ?_)
      obtain ⟨x1, rfl⟩ := h1
      refine c_put ?_ (fun σ2 f2 e2 u2 g2 => ?_)
      · obtain ⟨s, s1, s2⟩ := hup
        exact ⟨s, s1, by simp (disch := omega) only [zup_eq, zput_app, zput_twice, upd_same, nI_1, za2, zA2, zm2, za3, zA3, zm3, za4, zA4, zm4, za9, zA9, zm9, za10, zA10, zm10, za18, zA18, zm18, za27, zA27, zm27, za36, zA36, zm36, za48, zA48, zm48, za288, zA288, zm288, zcl, zinT, upd_ne, upd_eq, zlt, znlt, zl2, zn2_, zl3, zn3_, zl5, zn5_, zl9, zn9_, zl10, zn10_, zl16, zn16_, zl20, zn20_, zl40, zn40_, zl60, zn60_, zl76, zn76_, zl80, zn80_, zl288, zn288_, zl300, zn300_, zneg, Nat.reduceEqDiff, Nat.reduceAdd, ↓reduceIte]; exact s2⟩
      · have hle := pNum_le hC 2 (a + 1) (C a - 48) (by omega)
        refine hq σ2 ⟨Fr.tr step_pp (Fr.tr step_pp f2), TC.fp t1 f2 (e2.trans t1.1) hle.2, u2, fun _ => g2 l0 (HL.step (HL.step hl)) (by omega)⟩
    · rw [if_pos rfl]
      rw [if_neg (show ¬ (48 ≤ C a ∧ C a ≤ 57) by omega)] at hq
      refine c_peek ht (fun x2 hx2 => ?_)
      refine c_valueOf hx2 ?_
      by_cases hv : vof (C a) = 99
      · rw [if_pos hv, if_pos rfl]
        rw [if_pos hv] at hq
        exact hq σ ⟨Fr.rf, ht, hup, fun q => by cases q⟩
      · rw [if_neg hv]
        rw [if_neg hv] at hq
        have hv9 : vof (C a) < 9 := by have := vof_cases (C a); omega
        have hne : ¬ (nI (vof (C a)) = -1) := by
          have : ∀ k, k < 10 → ¬ (nI k = -1) := by decide
          exact this _ (by omega)
        have haL2 := inL (L := L) hC (a := a) (fun h => hv (by rw [h]; rfl))
        rw [if_neg hne, c_step ht, show (1000 : Int32) + nI (vof (C a)) = nI (1000 + vof (C a)) from nI_add 1000 _]
        refine c_put ?_ (fun σ2 f2 e2 u2 g2 => ?_)
        · obtain ⟨s, s1, s2⟩ := hup
          exact ⟨s, s1, by simp (disch := omega) only [zup_eq, zput_app, zput_twice, upd_same, nI_1, za2, zA2, zm2, za3, zA3, zm3, za4, zA4, zm4, za9, zA9, zm9, za10, zA10, zm10, za18, zA18, zm18, za27, zA27, zm27, za36, zA36, zm36, za48, zA48, zm48, za288, zA288, zm288, zcl, zinT, upd_ne, upd_eq, zlt, znlt, zl2, zn2_, zl3, zn3_, zl5, zn5_, zl9, zn9_, zl10, zn10_, zl16, zn16_, zl20, zn20_, zl40, zn40_, zl60, zn60_, zl76, zn76_, zl80, zn80_, zl288, zn288_, zl300, zn300_, zneg, Nat.reduceEqDiff, Nat.reduceAdd, ↓reduceIte]; exact s2⟩
        · exact hq σ2 ⟨Fr.tr step_pp f2, TC.fp (TC.to ht haL2) f2 (e2.trans (TC.to ht haL2).1) haL2, u2, fun _ => g2 l0 (HL.step hl) (by omega)⟩
end CRULE
