/-! the class reads the rule: signs, products, sums, comparisons */ -/
section CRULE2
variable {C : Nat → Nat} {L : Nat}
theorem c_signed (hC : ∀ i, L ≤ i → C i = 999) (hL : L ≤ 40) {e dp : Nat} {ok : Bool} {sub : Nat → PR} (hgd : ok = true → ∀ a, a ≤ L → Gd L a (sub a)) (hth : CX C L e 52 dp (pThing C sub ok)) (he : 2 ≤ e) : CX C L (e + 1) 51 dp (pSigned C sub ok) := by
  intro a0 l0 σ0 ht0 hl0 hla0 Q hq0
  obtain ⟨e', rfl⟩ : ∃ e', e = e' + 2 := ⟨e - 2, by omega⟩
  refine k_51_0 ?_
  have fin : ∀ k a (σ : zS), k = a - a0 → a = mns C 40 a0 → a0 ≤ a → TC C L a σ → HL l0 σ → Fr pp σ0 σ → k ≤ 40 → ZC (e' + 2) 52 [.ref 8, .int (nI dp)] σ (fun v4 s3 => (if v4 = 0 then Q 0 s3 else (if (zrem (nI k) 2) = 1 then (ZC (e' + 2) 47 [.ref 8, .int (-126)] s3 (fun _ s5 => Q 1 s5)) else Q 1 s3))) := by
    intro k a σ hk hm ha ht hl hf hk40
    refine hth a l0 σ ht hl (by omega) _ (fun σ1 p1 => ?_)
    obtain ⟨f1, t1, u1, g1⟩ := p1
    have hgt := pThing_gd hC hgd ht.2.2.2.2.2
    have hdef : pSigned C sub ok a0 = pSgn k (pThing C sub ok a) := by unfold pSigned; rw [← hm, ← hk]
    rw [hdef] at hq0
    unfold pSgn at hq0
    cases hr : (pThing C sub ok a).1
    · rw [if_pos (by decide)]
      rw [hr] at hq0
      simp only [Bool.false_eq_true, ↓reduceIte] at hq0
      exact hq0 σ1 ⟨Fr.tr hf f1, t1, u1, fun q => by cases q⟩
    · rw [if_neg (by decide)]
      rw [hr] at hq0 g1
      simp only [↓reduceIte] at hq0
      have hz : (zrem (nI k) 2 = 1) = (k % 2 = 1) := by
        rw [show (2 : Int32) = nI 2 from rfl, zrem_nI (by omega) (by decide) (by decide), show (1 : Int32) = nI 1 from rfl]
        exact propext (nI_eq (by omega) (by omega))
      simp only [hz]
      by_cases hk2 : k % 2 = 1
      · rw [if_pos hk2]
        rw [if_pos hk2] at hq0
        refine c_put u1 (fun σ2 f2 e2 u2 g2 => ?_)
        refine hq0 σ2 ⟨Fr.tr hf (Fr.tr f1 f2), TC.fp t1 f2 (e2.trans t1.1) t1.2.2.2.2.2, u2, fun _ => ?_⟩
        show HL (l0 ++ ((pThing C sub ok a).2.2 ++ [-126])) σ2
        rw [← List.append_assoc]
        refine g2 _ (g1 rfl) ?_
        obtain ⟨x1, x2, x3⟩ := hgt
        have := (x3 hr).2.1
        rw [List.length_append]
        omega
      · rw [if_neg hk2]
        rw [if_neg hk2] at hq0
        refine hq0 σ1 ⟨Fr.tr hf f1, t1, u1, fun _ => ?_⟩
        show HL (l0 ++ ((pThing C sub ok a).2.2 ++ [])) σ1
        rw [List.append_nil]
        exact g1 rfl
  have loop : ∀ m k a (σ : zS), k + m = 40 → k = a - a0 → a0 ≤ a → mns C 40 a0 = mns C m a → TC C L a σ → HL l0 σ → Fr pp σ0 σ → Z (e' + 2) 51 Q 2 [.ref 8, .int (nI dp), .int (nI k)] [] σ := by
    intro m
    induction m with
    | zero =>
      intro k a σ hkm hk ha hm ht hl hf
      refine k_51_2 ?_
      rw [if_neg (show ¬ nI k < 40 from nI_nlt (a := k) (b := 40) (by omega) (by omega))]
      refine fin k a σ hk ?_ ha ht hl hf (by omega)
      rw [hm]; rfl
    | succ m ih =>
      intro k a σ hkm hk ha hm ht hl hf
      refine k_51_2 ?_
      rw [if_pos (show nI k < 40 from nI_lt (b := 40) (by omega) (by decide))]
      refine c_pick ht (c := 45) (by decide) (fun hc => ?_) (fun hc => ?_)
      · rw [if_neg (by decide), nI_1]
        have haL := inL (L := L) hC (a := a) (by omega)
        refine ih (k + 1) (a + 1) _ (by omega) (by omega) (by omega) ?_ (TC.to ht haL) (HL.step hl) (Fr.tr hf step_pp)
        rw [hm]
        conv => lhs; unfold mns
        rw [if_pos hc]
      · rw [if_pos rfl]
        refine fin k a σ hk ?_ ha ht hl hf (by omega)
        rw [hm]
        unfold mns
        rw [if_neg hc]
  exact loop 40 0 a0 σ0 (by decide) (by omega) (Nat.le_refl _) rfl ht0 hl0 Fr.rf
theorem c_loop50 (hC : ∀ i, L ≤ i → C i = 999) (hL : L ≤ 40) {e dp : Nat} {f : Nat → PR} (hgd : ∀ a, a ≤ L → Gd L a (f a)) (hin : CX C L (e + 1) 51 dp f) : CX C L (e + 2) 50 dp (pLoop C f 42 47) := by
  intro a0 l0 σ0 ht0 hl0 hla0 Q hq0
  have bad : ∀ (k : Nat) (x3 : Int32) (σ : zS), Q 0 σ → Z (e + 1) 50 Q 17 [.ref 8, .int (nI dp), .int 0, .int x3, .int (nI k)] [] σ := by
    intro k x3 σ h
    refine k_50_17 ?_
    split
    · rw [if_pos rfl, if_pos (by decide)]; exact h
    · rw [if_pos (by decide)]; exact h
  have loop : ∀ m k a l (σ : zS) (x : Int32), k + m = 40 → TC C L a σ → chR x (C a) → HL (l0 ++ l) σ → (l0 ++ l).length ≤ a → Fr pp σ0 σ → (∀ σ', PP C L l0 (pRest C f 42 47 m a l) σ0 σ' → Q (b2i (pRest C f 42 47 m a l).1) σ') → Z (e + 1) 50 Q 17 [.ref 8, .int (nI dp), .int 1, .int x, .int (nI k)] [] σ := by
    intro m
    induction m with
    | zero =>
      intro k a l σ x hkm ht hx hl hla hf hq
      refine k_50_17 ?_
      rw [if_neg (show ¬ nI k < 40 from nI_nlt (a := k) (b := 40) (by omega) (by omega)), if_pos (by decide)]
      exact hq σ ⟨hf, ht, HL.upto hl (by have := ht.2.2.2.2.2; omega), fun _ => hl⟩
    | succ m ih =>
      intro k a l σ x hkm ht hx hl hla hf hq
      refine k_50_17 ?_
      rw [if_pos (show nI k < 40 from nI_lt (b := 40) (by omega) (by decide)), if_neg (by decide)]
      simp only [show (x = 42) = (C a = 42) from chR_eq hx (c := 42) (by decide), show (x = 47) = (C a = 47) from chR_eq hx (c := 47) (by decide)]
      have go : C a = 42 ∨ C a = 47 → ZC (e + 1) 65 [.ref 1] σ (fun _ s1 => (ZC (e + 1) 51 [.ref 8, .int (nI dp)] s1 (fun v4 s3 => (ZC (e + 1) 47 [.ref 8, .int (-x)] s3 (fun _ s5 => (ZC (e + 1) 64 [.ref 1] s5 (fun v8 s7 => Z (e + 1) 50 Q 17 [.ref 8, .int (nI dp), .int v4, .int v8, .int (nI k + 1)] [] s7))))))) := by
        intro hc
        have haL := inL (L := L) hC (a := a) (by omega)
        rw [c_step ht]
        refine hin (a + 1) (l0 ++ l) _ (TC.to ht haL) (HL.step hl) (by omega) _ (fun σ1 p1 => ?_)
        obtain ⟨f1, t1, u1, g1⟩ := p1
        obtain ⟨m1, m2, m3⟩ := hgd (a + 1) (by omega)
        have f01 : Fr pp σ0 σ1 := Fr.tr hf (Fr.tr step_pp f1)
        refine c_put u1 (fun σ2 f2 e2 u2 g2 => ?_)
        have t2 := TC.fp t1 f2 (e2.trans t1.1) t1.2.2.2.2.2
        refine c_peek t2 (fun x2 hx2 => ?_)
        rw [nI_1]
        unfold pRest at hq
        rw [if_pos hc] at hq
        cases hr : (f (a + 1)).1
        · rw [hr] at hq
          simp only [Bool.false_eq_true, ↓reduceIte] at hq
          exact bad (k + 1) x2 σ2 (hq σ2 ⟨Fr.tr f01 f2, t2, u2, fun q => by cases q⟩)
        · rw [hr] at hq g1
          obtain ⟨m4, m5, m6⟩ := m3 hr
          simp only [↓reduceIte] at hq
          have hxc : x = nI (C a) := by
            rcases hx with ⟨q1, q2⟩ | ⟨q1, q2⟩
            · exact q2
            · omega
          have hlen : (l0 ++ l ++ (f (a + 1)).2.2).length < 40 := by
            rw [List.length_append]; omega
          have hl2 : HL (l0 ++ (l ++ (f (a + 1)).2.2 ++ [-(nI (C a))])) σ2 := by
            rw [← hxc, ← List.append_assoc, ← List.append_assoc]
            exact g2 _ (g1 rfl) hlen
          refine ih (k + 1) (f (a + 1)).2.1 (l ++ (f (a + 1)).2.2 ++ [-(nI (C a))]) σ2 x2 (by omega) t2 hx2 hl2 ?_ (Fr.tr f01 f2) hq
          rw [← List.append_assoc, ← List.append_assoc, List.length_append, List.length_append]
          show (l0 ++ l).length + (f (a + 1)).2.2.length + 1 ≤ (f (a + 1)).2.1
          omega
      by_cases h1 : C a = 42
      · rw [if_pos h1]; exact go (Or.inl h1)
      · rw [if_neg h1]
        by_cases h2 : C a = 47
        · rw [if_pos h2]; exact go (Or.inr h2)
        · rw [if_neg h2, if_pos (by decide)]
          unfold pRest at hq
          rw [if_neg (by omega)] at hq
          exact hq σ ⟨hf, ht, HL.upto hl (by have := ht.2.2.2.2.2; omega), fun _ => hl⟩
  refine k_50_0 ?_
  refine hin a0 l0 σ0 ht0 hl0 hla0 _ (fun σ1 p1 => ?_)
  obtain ⟨f1, t1, u1, g1⟩ := p1
  obtain ⟨m1, m2, m3⟩ := hgd a0 ht0.2.2.2.2.2
  refine c_peek t1 (fun x hx => ?_)
  unfold pLoop at hq0
  cases hr : (f a0).1
  · rw [hr] at hq0
    simp only [Bool.false_eq_true, ↓reduceIte] at hq0
    exact bad 0 x σ1 (hq0 σ1 ⟨f1, t1, u1, fun q => by cases q⟩)
  · rw [hr] at hq0 g1
    simp only [↓reduceIte] at hq0
    obtain ⟨m4, m5, m6⟩ := m3 hr
    exact loop 40 0 (f a0).2.1 (f a0).2.2 σ1 x (by decide) t1 hx (g1 rfl) (by rw [List.length_append]; omega) f1 hq0
theorem c_loop49 (hC : ∀ i, L ≤ i → C i = 999) (hL : L ≤ 40) {e dp : Nat} {f : Nat → PR} (hgd : ∀ a, a ≤ L → Gd L a (f a)) (hin : CX C L (e + 1) 50 dp f) : CX C L (e + 2) 49 dp (pLoop C f 43 45) := by
  intro a0 l0 σ0 ht0 hl0 hla0 Q hq0
  have bad : ∀ (k : Nat) (x3 : Int32) (σ : zS), Q 0 σ → Z (e + 1) 49 Q 17 [.ref 8, .int (nI dp), .int 0, .int x3, .int (nI k)] [] σ := by
    intro k x3 σ h
    refine k_49_17 ?_
    split
    · rw [if_pos rfl, if_pos (by decide)]; exact h
    · rw [if_pos (by decide)]; exact h
  have loop : ∀ m k a l (σ : zS) (x : Int32), k + m = 40 → TC C L a σ → chR x (C a) → HL (l0 ++ l) σ → (l0 ++ l).length ≤ a → Fr pp σ0 σ → (∀ σ', PP C L l0 (pRest C f 43 45 m a l) σ0 σ' → Q (b2i (pRest C f 43 45 m a l).1) σ') → Z (e + 1) 49 Q 17 [.ref 8, .int (nI dp), .int 1, .int x, .int (nI k)] [] σ := by
    intro m
    induction m with
    | zero =>
      intro k a l σ x hkm ht hx hl hla hf hq
      refine k_49_17 ?_
      rw [if_neg (show ¬ nI k < 40 from nI_nlt (a := k) (b := 40) (by omega) (by omega)), if_pos (by decide)]
      exact hq σ ⟨hf, ht, HL.upto hl (by have := ht.2.2.2.2.2; omega), fun _ => hl⟩
    | succ m ih =>
      intro k a l σ x hkm ht hx hl hla hf hq
      refine k_49_17 ?_
      rw [if_pos (show nI k < 40 from nI_lt (b := 40) (by omega) (by decide)), if_neg (by decide)]
      simp only [show (x = 43) = (C a = 43) from chR_eq hx (c := 43) (by decide), show (x = 45) = (C a = 45) from chR_eq hx (c := 45) (by decide)]
      have go : C a = 43 ∨ C a = 45 → ZC (e + 1) 65 [.ref 1] σ (fun _ s1 => (ZC (e + 1) 50 [.ref 8, .int (nI dp)] s1 (fun v4 s3 => (ZC (e + 1) 47 [.ref 8, .int (-x)] s3 (fun _ s5 => (ZC (e + 1) 64 [.ref 1] s5 (fun v8 s7 => Z (e + 1) 49 Q 17 [.ref 8, .int (nI dp), .int v4, .int v8, .int (nI k + 1)] [] s7))))))) := by
        intro hc
        have haL := inL (L := L) hC (a := a) (by omega)
        rw [c_step ht]
        refine hin (a + 1) (l0 ++ l) _ (TC.to ht haL) (HL.step hl) (by omega) _ (fun σ1 p1 => ?_)
        obtain ⟨f1, t1, u1, g1⟩ := p1
        obtain ⟨m1, m2, m3⟩ := hgd (a + 1) (by omega)
        have f01 : Fr pp σ0 σ1 := Fr.tr hf (Fr.tr step_pp f1)
        refine c_put u1 (fun σ2 f2 e2 u2 g2 => ?_)
        have t2 := TC.fp t1 f2 (e2.trans t1.1) t1.2.2.2.2.2
        refine c_peek t2 (fun x2 hx2 => ?_)
        rw [nI_1]
        unfold pRest at hq
        rw [if_pos hc] at hq
        cases hr : (f (a + 1)).1
        · rw [hr] at hq
          simp only [Bool.false_eq_true, ↓reduceIte] at hq
          exact bad (k + 1) x2 σ2 (hq σ2 ⟨Fr.tr f01 f2, t2, u2, fun q => by cases q⟩)
        · rw [hr] at hq g1
          obtain ⟨m4, m5, m6⟩ := m3 hr
          simp only [↓reduceIte] at hq
          have hxc : x = nI (C a) := by
            rcases hx with ⟨q1, q2⟩ | ⟨q1, q2⟩
            · exact q2
            · omega
          have hlen : (l0 ++ l ++ (f (a + 1)).2.2).length < 40 := by
            rw [List.length_append]; omega
          have hl2 : HL (l0 ++ (l ++ (f (a + 1)).2.2 ++ [-(nI (C a))])) σ2 := by
            rw [← hxc, ← List.append_assoc, ← List.append_assoc]
            exact g2 _ (g1 rfl) hlen
          refine ih (k + 1) (f (a + 1)).2.1 (l ++ (f (a + 1)).2.2 ++ [-(nI (C a))]) σ2 x2 (by omega) t2 hx2 hl2 ?_ (Fr.tr f01 f2) hq
          rw [← List.append_assoc, ← List.append_assoc, List.length_append, List.length_append]
          show (l0 ++ l).length + (f (a + 1)).2.2.length + 1 ≤ (f (a + 1)).2.1
          omega
      by_cases h1 : C a = 43
      · rw [if_pos h1]; exact go (Or.inl h1)
      · rw [if_neg h1]
        by_cases h2 : C a = 45
        · rw [if_pos h2]; exact go (Or.inr h2)
        · rw [if_neg h2, if_pos (by decide)]
          unfold pRest at hq
          rw [if_neg (by omega)] at hq
          exact hq σ ⟨hf, ht, HL.upto hl (by have := ht.2.2.2.2.2; omega), fun _ => hl⟩
  refine k_49_0 ?_
  refine hin a0 l0 σ0 ht0 hl0 hla0 _ (fun σ1 p1 => ?_)
  obtain ⟨f1, t1, u1, g1⟩ := p1
  obtain ⟨m1, m2, m3⟩ := hgd a0 ht0.2.2.2.2.2
  refine c_peek t1 (fun x hx => ?_)
  unfold pLoop at hq0
  cases hr : (f a0).1
  · rw [hr] at hq0
    simp only [Bool.false_eq_true, ↓reduceIte] at hq0
    exact bad 0 x σ1 (hq0 σ1 ⟨f1, t1, u1, fun q => by cases q⟩)
  · rw [hr] at hq0 g1
    simp only [↓reduceIte] at hq0
    obtain ⟨m4, m5, m6⟩ := m3 hr
    exact loop 40 0 (f a0).2.1 (f a0).2.2 σ1 x (by decide) t1 hx (g1 rfl) (by rw [List.length_append]; omega) f1 hq0
theorem c_expr (hC : ∀ i, L ≤ i → C i = 999) (hL : L ≤ 40) {e dp : Nat} {f : Nat → PR} (hgd : ∀ a, a ≤ L → Gd L a (f a)) (hin : CX C L (e + 1) 49 dp f) : CX C L (e + 2) 48 dp (pCmp C f) := by
  intro a l0 σ ht hl hla Q hq
  refine k_48_0 ?_
  refine hin a l0 σ ht hl hla _ (fun σ1 p1 => ?_)
  obtain ⟨f1, t1, u1, g1⟩ := p1
  obtain ⟨m1, m2, m3⟩ := hgd a ht.2.2.2.2.2
  unfold pCmp at hq
  cases hr : (f a).1
  · rw [hr] at hq
    rw [if_pos (by decide)]
    simp only [Bool.false_eq_true, ↓reduceIte] at hq
    exact hq σ1 ⟨f1, t1, u1, fun q => by cases q⟩
  · rw [hr] at hq g1
    rw [if_neg (by decide)]
    simp only [↓reduceIte] at hq
    obtain ⟨m4, m5, m6⟩ := m3 hr
    refine c_peek t1 (fun x hx => ?_)
    simp only [show (x = 60) = (C (f a).2.1 = 60) from chR_eq hx (c := 60) (by decide), show (x = 62) = (C (f a).2.1 = 62) from chR_eq hx (c := 62) (by decide), show (x = 61) = (C (f a).2.1 = 61) from chR_eq hx (c := 61) (by decide)]
    have go : C (f a).2.1 = 60 ∨ C (f a).2.1 = 62 ∨ C (f a).2.1 = 61 → ZC (e + 1) 65 [.ref 1] σ1 (fun _ s5 => (ZC (e + 1) 49 [.ref 8, .int (nI dp)] s5 (fun v8 s7 => (if v8 = 0 then Q 0 s7 else (ZC (e + 1) 47 [.ref 8, .int (-x)] s7 (fun _ s9 => Q 1 s9)))))) := by
      intro hc
      rw [if_pos hc] at hq
      have haL := inL (L := L) hC (a := (f a).2.1) (by omega)
      have hl1 := g1 rfl
      rw [c_step t1]
      refine hin ((f a).2.1 + 1) (l0 ++ (f a).2.2) _ (TC.to t1 haL) (HL.step hl1) (by rw [List.length_append]; omega) _ (fun σ2 p2 => ?_)
      obtain ⟨f2, t2, u2, g2⟩ := p2
      obtain ⟨n1, n2, n3⟩ := hgd ((f a).2.1 + 1) (by omega)
      have f02 : Fr pp σ σ2 := Fr.tr f1 (Fr.tr step_pp f2)
      cases hr2 : (f ((f a).2.1 + 1)).1
      · rw [hr2] at hq
        rw [if_pos (by decide)]
        simp only [Bool.false_eq_true, ↓reduceIte] at hq
        exact hq σ2 ⟨f02, t2, u2, fun q => by cases q⟩
      · rw [hr2] at hq g2
        rw [if_neg (by decide)]
        simp only [↓reduceIte] at hq
        obtain ⟨n4, n5, n6⟩ := n3 hr2
        refine c_put u2 (fun σ3 f3 e3 u3 g3 => ?_)
        refine hq σ3 ⟨Fr.tr f02 f3, TC.fp t2 f3 (e3.trans t2.1) t2.2.2.2.2.2, u3, fun _ => ?_⟩
        have hxc : x = nI (C (f a).2.1) := by
          rcases hx with ⟨q1, q2⟩ | ⟨q1, q2⟩
          · exact q2
          · omega
        show HL (l0 ++ ((f a).2.2 ++ (f ((f a).2.1 + 1)).2.2 ++ [-(nI (C (f a).2.1))])) σ3
        rw [← hxc, ← List.append_assoc, ← List.append_assoc]
        refine g3 _ (g2 rfl) ?_
        rw [List.length_append, List.length_append]
        omega
    by_cases h1 : C (f a).2.1 = 60
    · rw [if_pos h1]; exact go (Or.inl h1)
    · rw [if_neg h1]
      by_cases h2 : C (f a).2.1 = 62
      · rw [if_pos h2]; exact go (Or.inr (Or.inl h2))
      · rw [if_neg h2]
        by_cases h3 : C (f a).2.1 = 61
        · rw [if_pos h3]; exact go (Or.inr (Or.inr h3))
        · rw [if_neg h3]
          rw [if_neg (by omega)] at hq
          have hq' : ∀ σ', PP C L l0 (f a) σ σ' → Q (b2i (f a).1) σ' := hq
          rw [hr] at hq'
          exact hq' σ1 ⟨f1, t1, u1, fun _ => g1 rfl⟩
theorem c_pE (hC : ∀ i, L ≤ i → C i = 999) (hL : L ≤ 40) : ∀ n, n ≤ 4 → ∀ e, CX C L (e + 5 * n + 9) 48 (4 - n) (pE C n) := by
  have key : ∀ (sub : Nat → PR) (ok : Bool) (dp e : Nat), dp ≤ 4 → ok = decide (dp < 4) → (ok = true → ∀ a, a ≤ L → Gd L a (sub a)) → (ok = true → CX C L (e + 4) 48 (dp + 1) sub) → CX C L (e + 9) 48 dp (pCmp C (pSum C sub ok)) := by
    intro sub ok dp e hdp hok hgd hsub
    have g1 := fun a (ha : a ≤ L) => pSigned_gd hC hgd (a := a) ha
    have g2 := fun a (ha : a ≤ L) => pLoop_gd hC (p := pSigned C sub ok) (o1 := 42) (o2 := 47) (by decide) (by decide) g1 (a := a) ha
    have g3 := fun a (ha : a ≤ L) => pLoop_gd hC (p := pProd C sub ok) (o1 := 43) (o2 := 45) (by decide) (by decide) g2 (a := a) ha
    have t1 := c_thing hC hL hdp hok hgd hsub
    have t2 := c_signed hC hL hgd t1 (by omega)
    have t3 := c_loop50 hC hL g1 t2
    have t4 := c_loop49 hC hL g2 t3
    exact c_expr hC hL g3 t4
  intro n
  induction n with
  | zero =>
    intro _ e
    exact key _ false 4 e (by decide) (by decide) (fun q => by cases q) (fun q => by cases q)
  | succ n ih =>
    intro hn e
    have := ih (by omega) e
    refine key (pE C n) true (4 - (n + 1)) (e + 5 * n + 5) (by omega) ?_ (fun _ => pE_gd hC n) (fun _ => ?_)
    · exact (decide_eq_true (by omega)).symm
    · rw [show 4 - (n + 1) + 1 = 4 - n by omega]
      exact this
end CRULE2
