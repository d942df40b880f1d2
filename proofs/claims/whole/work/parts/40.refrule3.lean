/-! the reference reads the rule: products, sums, comparisons -/
theorem jn42 (a b : Int32) : jn (nI 42) a b = a * b := rfl
theorem jn43 (a b : Int32) : jn (nI 43) a b = a + b := rfl
theorem jn45 (a b : Int32) : jn (nI 45) a b = a - b := rfl
theorem jn47 (a b : Int32) : jn (nI 47) a b = if b = 0 then 0 else a / b := rfl
theorem jn60 (a b : Int32) : jn (nI 60) a b = if a < b then 1 else 0 := rfl
theorem jn61 (a b : Int32) : jn (nI 61) a b = if a = b then 1 else 0 := rfl
theorem jn62 (a b : Int32) : jn (nI 62) a b = if b < a then 1 else 0 := rfl
section RRULE3
variable {C : Nat → Nat} {L : Nat} {σ0 : zS}
theorem r_loop195 (hR : HR C L σ0) (hC : ∀ i, L ≤ i → C i = 999) (hL : L ≤ 40) {v : Nat → Int32} {e dp : Nat} {f : Nat → PR} (hgd : ∀ a, a ≤ L → Gd L a (f a)) (hin : CR C L (e + 2) 196 dp v σ0 f) : CR C L (e + 3) 195 dp v σ0 (pLoop C f 42 47) := by
  intro a0 σs hfs hFs has Q hq1 hq0
  have bad : ∀ (p : Nat) (x2 : Int32) (σ : zS), RB L p σ → Q x2 σ → ∀ w3 w4, Z (e + 2) 195 Q 6 [.ref 214, .int (nI dp), .int x2, w3, w4] [] σ := by
    intro p x2 σ hB h w3 w4
    refine k_195_6 ?_
    simp only [r_fine, hB.1, ne_m1 p hB.2.1, ↓reduceIte]
    exact h
  have loop : ∀ n a l (wl : Int32) (σ : zS), L ≤ a + n → a ≤ L → Fr pq σs σ → RF a σ → (∀ st, ex v l st = wl :: st) → ((pRest C f 42 47 n a l).1 = true → ∀ w σ', (∀ st, ex v (pRest C f 42 47 n a l).2.2 st = w :: st) → Fr pq σs σ' → RF (pRest C f 42 47 n a l).2.1 σ' → Q w σ') → ((pRest C f 42 47 n a l).1 = false → ∀ w σ', Fr pq σs σ' → RB L (pRest C f 42 47 n a l).2.1 σ' → Q w σ') → ∀ w3 w4, Z (e + 2) 195 Q 6 [.ref 214, .int (nI dp), .int wl, w3, w4] [] σ := by
    intro n
    induction n with
    | zero =>
      intro a l wl σ hLa ha hf hF hl h1 h0 w3 w4
      refine k_195_6 ?_
      rw [r_fine, hF.2, if_pos rfl, if_neg (by decide)]
      have hCa : C a = 999 := hC a (by omega)
      refine hR σ (Fr.tr hfs hf) a ha hF.1 (e + 1) _ (fun x hx => ?_)
      rw [if_neg (show ¬ x = 42 from fun q => by have := (chR_eq hx (c := 42) (by decide)).mp q; omega)]
      refine hR σ (Fr.tr hfs hf) a ha hF.1 (e + 1) _ (fun y hy => ?_)
      rw [if_neg (show ¬ y = 47 from fun q => by have := (chR_eq hy (c := 47) (by decide)).mp q; omega)]
      exact h1 rfl wl σ hl hf hF
    | succ n ih =>
      intro a l wl σ hLa ha hf hF hl h1 h0 w3 w4
      have go : ∀ c, c = 42 ∨ c = 47 → C a = c → ∀ T : Int32 → zS → Prop, (∀ w σ', (∀ w3 w4, Z (e + 2) 195 Q 6 [.ref 214, .int (nI dp), .int (jn (nI c) wl w), w3, w4] [] σ') → T w σ') → ZC (e + 2) 196 [.ref 214, .int (nI dp)] (zup σ 214 16 (nI (a + 1))) T := by
        intro c hc hca T hT
        have haL := inL (L := L) hC (a := a) (by omega)
        unfold pRest at h1 h0
        rw [if_pos (show C a = 42 ∨ C a = 47 by omega)] at h1 h0
        obtain ⟨m1, m2, m3⟩ := hgd (a + 1) (by omega)
        refine hin (a + 1) _ (Fr.tr hfs (Fr.tr hf at_pq)) (RF.to hF) (by omega) _ (fun hr w σ1 hw f1 F1 => ?_) (fun hr w σ1 f1 B1 => ?_)
        · rw [hr] at h1 h0
          simp only [↓reduceIte] at h1 h0
          refine hT w σ1 (fun w3 w4 => ?_)
          refine ih (f (a + 1)).2.1 (l ++ (f (a + 1)).2.2 ++ [-(nI (C a))]) _ σ1 (by omega) m2 (Fr.tr hf (Fr.tr at_pq f1)) F1 (fun st => ?_) h1 h0 w3 w4
          rw [hca]
          exact ex_bin hl hw (by omega) (by omega) (by omega) st
        · rw [hr] at h0
          simp only [Bool.false_eq_true, ↓reduceIte] at h0
          refine hT w σ1 (fun w3 w4 => ?_)
          exact bad _ _ σ1 B1 (h0 trivial _ σ1 (Fr.tr hf (Fr.tr at_pq f1)) B1) w3 w4
      refine k_195_6 ?_
      rw [r_fine, hF.2, if_pos rfl, if_neg (by decide)]
      refine hR σ (Fr.tr hfs hf) a ha hF.1 (e + 1) _ (fun x hx => ?_)
      simp only [show (x = 42) = (C a = 42) from chR_eq hx (c := 42) (by decide)]
      by_cases q1 : C a = 42
      · rw [if_pos q1]
        refine hR σ (Fr.tr hfs hf) a ha hF.1 (e + 1) _ (fun y hy => ?_)
        rw [if_pos (show y = 42 from (chR_eq hy (c := 42) (by decide)).mpr q1), hF.1, nI_1]
        refine go 42 (Or.inl rfl) q1 _ (fun w σ' h => ?_)
        rw [jn42] at h
        exact h _ _
      · rw [if_neg q1]
        refine hR σ (Fr.tr hfs hf) a ha hF.1 (e + 1) _ (fun y hy => ?_)
        by_cases q2 : C a = 47
        · rw [if_pos (show y = 47 from (chR_eq hy (c := 47) (by decide)).mpr q2)]
          refine hR σ (Fr.tr hfs hf) a ha hF.1 (e + 1) _ (fun z hz => ?_)
          rw [if_neg (show ¬ z = 42 from fun q => q1 ((chR_eq hz (c := 42) (by decide)).mp q)), hF.1, nI_1]
          refine go 47 (Or.inr rfl) q2 _ (fun w σ' h => ?_)
          rw [jn47] at h
          first
            | exact h _ _
            | (by_cases hw : w = 0
               · rw [if_pos hw]; rw [if_pos hw] at h; exact h _ _
               · rw [if_neg hw, if_neg hw]; rw [if_neg hw] at h; exact h _ _)
        · rw [if_neg (show ¬ y = 47 from fun q => q2 ((chR_eq hy (c := 47) (by decide)).mp q))]
          unfold pRest at h1
          rw [if_neg (show ¬ (C a = 42 ∨ C a = 47) by omega)] at h1
          exact h1 rfl wl σ hl hf hF
  refine k_195_0 ?_
  obtain ⟨m1, m2, m3⟩ := hgd a0 has
  unfold pLoop at hq1 hq0
  refine hin a0 σs hfs hFs has _ (fun hr w σ1 hw f1 F1 => ?_) (fun hr w σ1 f1 B1 => ?_)
  · rw [hr] at hq1 hq0
    simp only [↓reduceIte] at hq1 hq0
    exact loop 40 (f a0).2.1 (f a0).2.2 w σ1 (by omega) m2 f1 F1 hw hq1 hq0 _ _
  · rw [hr] at hq0
    simp only [Bool.false_eq_true, ↓reduceIte] at hq0
    exact bad _ _ σ1 B1 (hq0 trivial _ σ1 f1 B1) _ _
theorem r_loop194 (hR : HR C L σ0) (hC : ∀ i, L ≤ i → C i = 999) (hL : L ≤ 40) {v : Nat → Int32} {e dp : Nat} {f : Nat → PR} (hgd : ∀ a, a ≤ L → Gd L a (f a)) (hin : CR C L (e + 2) 195 dp v σ0 f) : CR C L (e + 3) 194 dp v σ0 (pLoop C f 43 45) := by
  intro a0 σs hfs hFs has Q hq1 hq0
  have bad : ∀ (p : Nat) (x2 : Int32) (σ : zS), RB L p σ → Q x2 σ → ∀ w3 w4, Z (e + 2) 194 Q 6 [.ref 214, .int (nI dp), .int x2, w3, w4] [] σ := by
    intro p x2 σ hB h w3 w4
    refine k_194_6 ?_
    simp only [r_fine, hB.1, ne_m1 p hB.2.1, ↓reduceIte]
    exact h
  have loop : ∀ n a l (wl : Int32) (σ : zS), L ≤ a + n → a ≤ L → Fr pq σs σ → RF a σ → (∀ st, ex v l st = wl :: st) → ((pRest C f 43 45 n a l).1 = true → ∀ w σ', (∀ st, ex v (pRest C f 43 45 n a l).2.2 st = w :: st) → Fr pq σs σ' → RF (pRest C f 43 45 n a l).2.1 σ' → Q w σ') → ((pRest C f 43 45 n a l).1 = false → ∀ w σ', Fr pq σs σ' → RB L (pRest C f 43 45 n a l).2.1 σ' → Q w σ') → ∀ w3 w4, Z (e + 2) 194 Q 6 [.ref 214, .int (nI dp), .int wl, w3, w4] [] σ := by
    intro n
    induction n with
    | zero =>
      intro a l wl σ hLa ha hf hF hl h1 h0 w3 w4
      refine k_194_6 ?_
      rw [r_fine, hF.2, if_pos rfl, if_neg (by decide)]
      have hCa : C a = 999 := hC a (by omega)
      refine hR σ (Fr.tr hfs hf) a ha hF.1 (e + 1) _ (fun x hx => ?_)
      rw [if_neg (show ¬ x = 43 from fun q => by have := (chR_eq hx (c := 43) (by decide)).mp q; omega)]
      refine hR σ (Fr.tr hfs hf) a ha hF.1 (e + 1) _ (fun y hy => ?_)
      rw [if_neg (show ¬ y = 45 from fun q => by have := (chR_eq hy (c := 45) (by decide)).mp q; omega)]
      exact h1 rfl wl σ hl hf hF
    | succ n ih =>
      intro a l wl σ hLa ha hf hF hl h1 h0 w3 w4
      have go : ∀ c, c = 43 ∨ c = 45 → C a = c → ∀ T : Int32 → zS → Prop, (∀ w σ', (∀ w3 w4, Z (e + 2) 194 Q 6 [.ref 214, .int (nI dp), .int (jn (nI c) wl w), w3, w4] [] σ') → T w σ') → ZC (e + 2) 195 [.ref 214, .int (nI dp)] (zup σ 214 16 (nI (a + 1))) T := by
        intro c hc hca T hT
        have haL := inL (L := L) hC (a := a) (by omega)
        unfold pRest at h1 h0
        rw [if_pos (show C a = 43 ∨ C a = 45 by omega)] at h1 h0
        obtain ⟨m1, m2, m3⟩ := hgd (a + 1) (by omega)
        refine hin (a + 1) _ (Fr.tr hfs (Fr.tr hf at_pq)) (RF.to hF) (by omega) _ (fun hr w σ1 hw f1 F1 => ?_) (fun hr w σ1 f1 B1 => ?_)
        · rw [hr] at h1 h0
          simp only [↓reduceIte] at h1 h0
          refine hT w σ1 (fun w3 w4 => ?_)
          refine ih (f (a + 1)).2.1 (l ++ (f (a + 1)).2.2 ++ [-(nI (C a))]) _ σ1 (by omega) m2 (Fr.tr hf (Fr.tr at_pq f1)) F1 (fun st => ?_) h1 h0 w3 w4
          rw [hca]
          exact ex_bin hl hw (by omega) (by omega) (by omega) st
        · rw [hr] at h0
          simp only [Bool.false_eq_true, ↓reduceIte] at h0
          refine hT w σ1 (fun w3 w4 => ?_)
          exact bad _ _ σ1 B1 (h0 trivial _ σ1 (Fr.tr hf (Fr.tr at_pq f1)) B1) w3 w4
      refine k_194_6 ?_
      rw [r_fine, hF.2, if_pos rfl, if_neg (by decide)]
      refine hR σ (Fr.tr hfs hf) a ha hF.1 (e + 1) _ (fun x hx => ?_)
      simp only [show (x = 43) = (C a = 43) from chR_eq hx (c := 43) (by decide)]
      by_cases q1 : C a = 43
      · rw [if_pos q1]
        refine hR σ (Fr.tr hfs hf) a ha hF.1 (e + 1) _ (fun y hy => ?_)
        rw [if_pos (show y = 43 from (chR_eq hy (c := 43) (by decide)).mpr q1), hF.1, nI_1]
        refine go 43 (Or.inl rfl) q1 _ (fun w σ' h => ?_)
        rw [jn43] at h
        exact h _ _
      · rw [if_neg q1]
        refine hR σ (Fr.tr hfs hf) a ha hF.1 (e + 1) _ (fun y hy => ?_)
        by_cases q2 : C a = 45
        · rw [if_pos (show y = 45 from (chR_eq hy (c := 45) (by decide)).mpr q2)]
          refine hR σ (Fr.tr hfs hf) a ha hF.1 (e + 1) _ (fun z hz => ?_)
          rw [if_neg (show ¬ z = 43 from fun q => q1 ((chR_eq hz (c := 43) (by decide)).mp q)), hF.1, nI_1]
          refine go 45 (Or.inr rfl) q2 _ (fun w σ' h => ?_)
          rw [jn45] at h
          first
            | exact h _ _
            | (by_cases hw : w = 0
               · rw [if_pos hw]; rw [if_pos hw] at h; exact h _ _
               · rw [if_neg hw, if_neg hw]; rw [if_neg hw] at h; exact h _ _)
        · rw [if_neg (show ¬ y = 45 from fun q => q2 ((chR_eq hy (c := 45) (by decide)).mp q))]
          unfold pRest at h1
          rw [if_neg (show ¬ (C a = 43 ∨ C a = 45) by omega)] at h1
          exact h1 rfl wl σ hl hf hF
  refine k_194_0 ?_
  obtain ⟨m1, m2, m3⟩ := hgd a0 has
  unfold pLoop at hq1 hq0
  refine hin a0 σs hfs hFs has _ (fun hr w σ1 hw f1 F1 => ?_) (fun hr w σ1 f1 B1 => ?_)
  · rw [hr] at hq1 hq0
    simp only [↓reduceIte] at hq1 hq0
    exact loop 40 (f a0).2.1 (f a0).2.2 w σ1 (by omega) m2 f1 F1 hw hq1 hq0 _ _
  · rw [hr] at hq0
    simp only [Bool.false_eq_true, ↓reduceIte] at hq0
    exact bad _ _ σ1 B1 (hq0 trivial _ σ1 f1 B1) _ _
theorem r_held (hR : HR C L σ0) (hC : ∀ i, L ≤ i → C i = 999) (hL : L ≤ 40) {v : Nat → Int32} {e dp : Nat} {f : Nat → PR} (hgd : ∀ a, a ≤ L → Gd L a (f a)) (hin : CR C L (e + 2) 194 dp v σ0 f) : CR C L (e + 3) 193 dp v σ0 (pCmp C f) := by
  intro a σ hf hF ha Q h1 h0
  refine k_193_0 ?_
  obtain ⟨m1, m2, m3⟩ := hgd a ha
  unfold pCmp at h1 h0
  refine hin a σ hf hF ha _ (fun hr w σ1 hw f1 F1 => ?_) (fun hr w σ1 f1 B1 => ?_)
  · rw [hr] at h1 h0
    simp only [↓reduceIte] at h1 h0
    have go : ∀ c, c = 60 ∨ c = 62 ∨ c = 61 → C (f a).2.1 = c → ∀ T : Int32 → zS → Prop, (∀ w2 σ', Q (jn (nI c) w w2) σ' → T w2 σ') → ZC (e + 2) 194 [.ref 214, .int (nI dp)] (zup σ1 214 16 (nI ((f a).2.1 + 1))) T := by
      intro c hc hca T hT
      have haL := inL (L := L) hC (a := (f a).2.1) (by omega)
      rw [if_pos (show C (f a).2.1 = 60 ∨ C (f a).2.1 = 62 ∨ C (f a).2.1 = 61 by omega)] at h1 h0
      refine hin ((f a).2.1 + 1) _ (Fr.tr hf (Fr.tr f1 at_pq)) (RF.to F1) (by omega) _ (fun hr2 w2 σ2 hw2 f2 F2 => ?_) (fun hr2 w2 σ2 f2 B2 => ?_)
      · rw [hr2] at h1
        simp only [↓reduceIte] at h1
        refine hT w2 σ2 (h1 trivial _ _ (fun st => ?_) (Fr.tr f1 (Fr.tr at_pq f2)) F2)
        rw [hca]
        exact ex_bin hw hw2 (by omega) (by omega) (by omega) st
      · rw [hr2] at h0
        simp only [Bool.false_eq_true, ↓reduceIte] at h0
        exact hT w2 σ2 (h0 trivial _ _ (Fr.tr f1 (Fr.tr at_pq f2)) B2)
    have hf1 := Fr.tr hf f1
    refine r_passes hR hf1 F1 m2 (c := 60) (by decide) (fun q1 => ?_) (fun q1 => ?_)
    · rw [if_neg (by decide)]
      refine go 60 (Or.inl rfl) q1 _ (fun w2 σ' h => ?_)
      rw [jn60] at h
      by_cases q : w < w2
      · rw [if_pos q] at h ⊢; exact h
      · rw [if_neg q] at h ⊢; exact h
    · rw [if_pos rfl]
      refine r_passes hR hf1 F1 m2 (c := 62) (by decide) (fun q2 => ?_) (fun q2 => ?_)
      · rw [if_neg (by decide)]
        refine go 62 (Or.inr (Or.inl rfl)) q2 _ (fun w2 σ' h => ?_)
        rw [jn62] at h
        by_cases q : w2 < w
        · rw [if_pos q] at h ⊢; exact h
        · rw [if_neg q] at h ⊢; exact h
      · rw [if_pos rfl]
        refine r_passes hR hf1 F1 m2 (c := 61) (by decide) (fun q3 => ?_) (fun q3 => ?_)
        · rw [if_neg (by decide)]
          refine go 61 (Or.inr (Or.inr rfl)) q3 _ (fun w2 σ' h => ?_)
          rw [jn61] at h
          by_cases q : w = w2
          · rw [if_pos q] at h ⊢; exact h
          · rw [if_neg q] at h ⊢; exact h
        · rw [if_pos rfl]
          rw [if_neg (show ¬ (C (f a).2.1 = 60 ∨ C (f a).2.1 = 62 ∨ C (f a).2.1 = 61) by omega)] at h1
          exact h1 hr w σ1 hw f1 F1
  · rw [hr] at h0
    simp only [Bool.false_eq_true, ↓reduceIte] at h0
    rw [r_passesB B1, if_pos rfl, r_passesB B1, if_pos rfl, r_passesB B1, if_pos rfl]
    exact h0 trivial w σ1 f1 B1
theorem r_pE (hR : HR C L σ0) (hC : ∀ i, L ≤ i → C i = 999) (hL : L ≤ 40) {v : Nat → Int32} (hV : RV v σ0) : ∀ n, n ≤ 4 → ∀ e, CR C L (e + 44 * n + 47) 193 (4 - n) v σ0 (pE C n) := by
  have key : ∀ (sub : Nat → PR) (ok : Bool) (dp b : Nat), dp ≤ 4 → ok = decide (dp < 4) → (ok = true → ∀ a, a ≤ L → Gd L a (sub a)) → (ok = true → ∀ e, CR C L (e + b + 3) 193 (dp + 1) v σ0 sub) → ∀ e, CR C L (e + b + 47) 193 dp v σ0 (pCmp C (pSum C sub ok)) := by
    intro sub ok dp b hdp hok hgd hsub e
    have g1 := fun a (ha : a ≤ L) => pSigned_gd hC hgd (a := a) ha
    have g2 := fun a (ha : a ≤ L) => pLoop_gd hC (p := pSigned C sub ok) (o1 := 42) (o2 := 47) (by decide) (by decide) g1 (a := a) ha
    have g3 := fun a (ha : a ≤ L) => pLoop_gd hC (p := pProd C sub ok) (o1 := 43) (o2 := 45) (by decide) (by decide) g2 (a := a) ha
    have t1 : CR C L (e + b + 40 + 4) 196 dp v σ0 (pSigned C sub ok) := fun a σ hf hF ha Q h1 h0 => r_thing hR hC hL hV hdp hok hgd hsub 40 a σ e (by omega) hf hF ha Q h1 h0
    have t3 := r_loop195 (e := e + b + 42) hR hC hL g1 t1
    have t4 := r_loop194 (e := e + b + 43) hR hC hL g2 t3
    exact r_held (e := e + b + 44) hR hC hL g3 t4
  intro n
  induction n with
  | zero =>
    intro _ e
    exact key _ false 4 0 (by decide) (by decide) (fun q => by cases q) (fun q => by cases q) e
  | succ n ih =>
    intro hn e
    have := key (pE C n) true (4 - (n + 1)) (44 * n + 44) (by omega) (decide_eq_true (by omega)).symm (fun _ => pE_gd hC n) (fun _ e' => by
      have h := ih (by omega) e'
      rw [show 4 - (n + 1) + 1 = 4 - n by omega, show e' + (44 * n + 44) + 3 = e' + 44 * n + 47 by omega]
      exact h) e
    rw [show e + 44 * (n + 1) + 47 = e + (44 * n + 44) + 47 by omega]
    exact this
end RRULE3
