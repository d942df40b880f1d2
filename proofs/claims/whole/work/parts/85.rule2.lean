/-! the rule is told: the reference, and both -/
theorem b_small : ∀ c, c < 128 → zi2b (nI c) = nI c := by decide +kernel
theorem rv_null {σ : zS} (h : σ 214 21 = 0) : RV (fun _ => 0) σ := by
  intro σ1 hf d x1 c hc w3 w4 Q hq
  rw [(hf 214 21 (by decide)).trans h]
  exact k_196_212_n hq
theorem r_copyRule {d T : Nat} {C : Nat → Nat} {σ : zS} (h40 : T ≤ 40) (hc : ∀ i, i < T → σ 219 i = nI (C i) ∧ C i < 128) {Q : Int32 → zS → Prop} (hq : ∀ σ', Fr (fun o i => decide (o = 222 ∨ (o = 214 ∧ i = 20))) σ σ' → σ' 214 20 = nI T → (∀ i, i < T → σ' 222 i = nI (C i)) → Q 0 σ') : Z (d + 1) 198 Q 73 [.ref 214, .int (nI T), .int 0] [] σ := by
  have hloop := z_for (F := T) (P := fun j => ∀ σ1, Fr (fun o i => decide (o = 222 ∨ (o = 214 ∧ i = 20))) σ σ1 → (∀ i, i < j → σ1 222 i = nI (C i)) → Z (d + 1) 198 Q 73 [.ref 214, .int (nI T), .int (nI j)] [] σ1) (fun j hj ih => ?_) ?_
  · exact hloop σ Fr.rf (fun i hi => absurd hi (Nat.not_lt_zero i))
  · intro σ1 f1 e1
    refine k_198_73 ?_
    obtain ⟨c1, c2⟩ := hc j hj
    rw [if_pos (nI_lt hj (by omega)), if_pos (zin_nI (by omega) (by decide)), if_pos (zin_nI (by omega) (by decide)), zcl (by omega), show σ1 219 j = σ 219 j from f1 219 j (by simp), c1, b_small _ c2, show nI j + (1 : Int32) = nI (j + 1) from nI_add j 1]
    refine ih _ (Fr.tr f1 (Fr.up (by simp))) (fun i hi => ?_)
    simp only [zup_eq, zput_app, ↓reduceIte]
    by_cases q : i = j
    · rw [q, upd_eq]
    · rw [upd_ne q]; exact e1 i (by omega)
  · intro σ1 f1 e1
    refine k_198_73 ?_
    rw [if_neg (nI_nlt (Nat.le_refl _) (by omega))]
    exact hq _ (Fr.tr f1 (Fr.up (by decide))) rfl e1
theorem r_rule {e T : Nat} {C : Nat → Nat} {σ : zS} (hx : TXr C T σ) {Q : Int32 → zS → Prop}
    (h0 : T = 0 → ∀ σ', Fr pLr σ σ' → σ' 214 9 = 0 → Q 0 (zup σ' 214 20 0))
    (hok : 0 < T → ruOk C T → ∀ σ', Fr (fun o i => pLr o i || decide (o = 222 ∨ (o = 214 ∧ i = 20))) σ σ' → σ' 214 9 = 0 → σ' 214 20 = nI T → (∀ i, i < T → σ' 222 i = nI (C i)) → Q 0 σ')
    (hbad : 0 < T → ¬ ruOk C T → ∀ σ', Fr pLr σ σ' → σ' 214 9 = 0 → Q (-1 - nI (rdE C T).2.1) σ') : ZC (e + 224) 198 [.ref 214] σ Q := by
  obtain ⟨h80, h9, hch⟩ := hx
  refine k_198_0 ?_
  rw [h9, show (Value.int 40) = .int (nI 40) from rfl]
  refine r_begin219 (m := 40) (fun σ0 f0 e13 e14 e15 rf0 => ?_)
  have fb : Fr pLr σ σ0 := Fr.tr (Fr.up (by decide)) (Fr.mono f0 (fun o i q => by
    unfold pBe
    unfold pLr at q
    rw [decide_eq_false_iff_not] at q ⊢
    omega))
  have fb2 : Fr pLr σ (zup (zup σ0 214 9 0) 214 21 0) := Fr.tr fb (Fr.tr (Fr.up (by decide)) (Fr.up (by decide)))
  have e219 : ∀ i, (zup (zup σ0 214 9 0) 214 21 0) 219 i = σ 219 i := fun i => fb2 219 i (by simp [pLr])
  by_cases hT : T = 0
  · subst hT
    rw [if_neg (by decide)]
    refine k_198_73 ?_
    rw [if_neg (by decide)]
    exact h0 rfl _ fb2 rfl
  · rw [if_pos (show (0 : Int32) < nI T from nI_lt (a := 0) (by omega) (by omega))]
    have hC : ∀ i, min T 40 ≤ i → cutC C (min T 40) i = 999 := cutC_ge C _
    have hgd := pE_gd (C := cutC C (min T 40)) (L := min T 40) hC 4 0 (Nat.zero_le _)
    have hR : HR (cutC C (min T 40)) (min T 40) (zup (zup σ0 214 9 0) 214 21 0) := r_here219 (C := C) h80 (by decide) e13 e14 e15 (fun i hi => by rw [e219 i]; exact hch i (by omega))
    have hq : ∀ {σ1 : zS}, Fr pq (zup (zup σ0 214 9 0) 214 21 0) σ1 → Fr pLr σ σ1 := fun f => Fr.tr fb2 (Fr.mono f (fun o i q => by
      unfold pq
      unfold pLr at q
      rw [decide_eq_false_iff_not] at q ⊢
      omega))
    refine r_pE (C := cutC C (min T 40)) (L := min T 40) hR hC (by omega) (v := fun _ => 0) (rv_null rfl) 4 (by decide) e 0 _ Fr.rf ⟨rf0.1, rf0.2⟩ (Nat.zero_le _) _ (fun hr w σ1 hw f1 r1 => ?_) (fun hr w σ1 f1 r1 => ?_)
    · have e9 : σ1 214 9 = 0 := f1 214 9 (by decide)
      rw [r1.1]
      by_cases hp : (pE (cutC C (min T 40)) 4 0).2.1 < T
      · rw [if_pos (nI_lt hp (by omega)), r_fault r1.2, r_fine, show (zup σ1 214 17 (nI (pE (cutC C (min T 40)) 4 0).2.1)) 214 17 = nI (pE (cutC C (min T 40)) 4 0).2.1 from rfl, if_neg (of_eq_false (ne_m1 (pE (cutC C (min T 40)) 4 0).2.1 (by have := hgd.2.1; omega))), if_pos rfl]
        refine hbad (by omega) (fun q => ?_) _ (Fr.tr (hq f1) (Fr.up (by decide))) e9
        have := q.2.1
        unfold rdE at this
        omega
      · have hpT : (pE (cutC C (min T 40)) 4 0).2.1 = T := by have := hgd.2.1; omega
        have hT40 : T ≤ 40 := by have := hgd.2.1; omega
        rw [if_neg (nI_nlt (by omega) (by have := hgd.2.1; omega)), r_fine, r1.2, if_pos rfl, if_neg (by decide)]
        have hgs := gs_pE (C := cutC C (min T 40)) 4 0 hr
        refine r_copyRule (d := e + 222) (C := C) hT40 (fun i hi => ?_) (fun σ2 f2 e20 e222 => ?_)
        · have h1 := hgs i (Nat.zero_le _) (by omega)
          rw [cutC_lt (by omega)] at h1
          refine ⟨?_, h1⟩
          rw [show σ1 219 i = σ 219 i from (f1 219 i (by simp [pq])).trans (e219 i)]
          exact ch_dig (hch i (by omega)) h1
        · refine hok (by omega) ⟨hr, hpT, hT40⟩ σ2 (Fr.tr (Fr.mono (hq f1) (fun o i q => ?_)) (Fr.mono f2 (fun o i q => ?_))) ((f2 214 9 (by decide)).trans e9) e20 e222
          · rw [Bool.or_eq_false_iff] at q; exact q.1
          · rw [Bool.or_eq_false_iff] at q; exact q.2
    · have e9 : σ1 214 9 = 0 := f1 214 9 (by decide)
      obtain ⟨b1, b2, a, ha, b3⟩ := id r1
      have nofine : (if σ1 214 17 = -1 then (1 : Int32) else 0) = 0 := by rw [b1, if_neg (of_eq_false (ne_m1 _ b2))]
      have fin : Q (-1 - σ1 214 17) σ1 := by
        rw [b1]
        exact hbad (by omega) (fun q => by have := q.1; unfold rdE at this; rw [hr] at this; cases this) _ (hq f1) e9
      by_cases hp : σ1 214 16 < nI T
      · rw [if_pos hp, r_faultB r1, r_fine, nofine, if_pos rfl]
        exact fin
      · rw [if_neg hp, r_fine, nofine, if_pos rfl]
        exact fin
theorem call_rule {d e b : Nat} {σ : zS} (h : Inv b σ) : Both (d + 31) 86 [.ref 0] (e + 224) 198 [.ref 214] b σ := by
  obtain ⟨C, T, hx⟩ := h.tx
  have h80 := hx.1
  have txr : ∀ {σ1 : zS}, Fr pLc σ σ1 → ∀ {σ2 : zS}, (∀ o i, 9 < o → σ2 o i = σ1 o i) → TXr C T σ2 := fun f _ g => hx.r ((g 214 9 (by decide)).trans (f 214 9 (by decide))) (fun i => (g 219 i (by decide)).trans (f 219 i (by simp [pLc])))
  have fc : ∀ {σ1 : zS}, Fr pLc σ σ1 → Fr dTs σ σ1 := fun f => Fr.mono f (fun o i q => by
    unfold dTs scr dText at q
    unfold pLc
    rw [Bool.or_eq_false_iff, decide_eq_false_iff_not, decide_eq_false_iff_not] at q
    rw [decide_eq_false_iff_not]
    omega)
  have fr : ∀ {σ1 σ2 : zS}, Fr pLr σ1 σ2 → Fr dTs σ1 σ2 := fun f => Fr.mono f (fun o i q => by
    unfold dTs scr dText at q
    unfold pLr
    rw [Bool.or_eq_false_iff, decide_eq_false_iff_not, decide_eq_false_iff_not] at q
    rw [decide_eq_false_iff_not]
    omega)
  have up : ∀ {σ1 σ2 : zS}, Fr dTs σ1 σ2 → Fr dRu σ1 σ2 := fun f => Fr.mono f (fun o i q => by
    unfold dRu at q
    rw [Bool.or_eq_false_iff] at q
    exact q.1)
  refine c_rule hx (fun hT σ1 f1 e1 => ?_) (fun hT ok σ1 f1 e1 hl => ?_) (fun hT nok σ1 f1 e1 => ?_)
  · subst hT
    generalize hs : zup (zup (zup (zup σ1 5 0 1000) 5 1 3) 5 2 (-62)) 3 2 3 = σ2
    have g2 : ∀ o i, o ≠ 5 → (o = 3 → i ≠ 2) → σ2 o i = σ1 o i := fun o i p1 p2 => by
      rw [← hs]
      by_cases h3 : o = 3
      · subst h3
        simp only [zup_eq, zput_app, Nat.reduceEqDiff, ↓reduceIte]
        rw [upd_ne (p2 rfl)]
      · simp only [zup_eq, zput_app, if_neg h3, if_neg p1]
    refine r_rule (txr f1 (fun o i q => g2 o i (by omega) (by omega))) (fun _ σ3 f3 e9 => ⟨rfl, ?_⟩) (fun q => absurd q (by decide)) (fun q => absurd q (by decide))
    have l3 : ∀ o i, o ≠ 214 → σ3 o i = σ2 o i := fun o i q => f3 o i (decide_eq_false (by omega))
    have f12 : Fr dRu σ1 σ2 := fun o i q => g2 o i (by rintro rfl; simp [dRu, dRule] at q) (by rintro rfl rfl; simp [dRu, dRule] at q)
    refine Inv.ruled (l' := [1000, 3, -62]) h (Fr.tr (up (fc f1)) (Fr.tr f12 (Fr.tr (up (fr f3)) (Fr.up (by decide))))) ⟨⟨?_, fun i hi => ?_, by decide, ?_⟩, Or.inl ⟨rfl, rfl⟩⟩ (TX.text0 hx ?_ e9 (fun i => ?_) (fun i => ?_))
    · rw [zup_eq, zput_app, if_neg (by decide), l3 3 2 (by decide), ← hs]; rfl
    · rw [zup_eq, zput_app, if_neg (by decide), l3 5 i (by decide), ← hs]
      have hi' : i < 3 := hi
      have : i = 0 ∨ i = 1 ∨ i = 2 := by omega
      rcases this with rfl | rfl | rfl
      · rfl
      · rfl
      · rfl
    · have := One_bin (One_var (k := 0) (by decide)) (One_num (k := 3) (by decide)) (c := 62) (by decide) (by decide) (by decide)
      exact this
    · rw [zup_eq, zput_app, if_neg (by decide), l3 1 1 (by decide), g2 1 1 (by decide) (by decide)]; exact e1
    · rw [zup_eq, zput_app, if_neg (by decide), l3 2 i (by decide), g2 2 i (by decide) (fun q => absurd q (by decide))]; exact f1 2 i (by simp [pLc])
    · rw [zup_eq, zput_app, if_neg (by decide), l3 219 i (by decide), g2 219 i (by decide) (fun q => absurd q (by decide))]; exact f1 219 i (by simp [pLc])
  · have hC : ∀ i, min T 40 ≤ i → cutC C (min T 40) i = 999 := cutC_ge C _
    obtain ⟨k1, k2, k3⟩ := pE_gd (C := cutC C (min T 40)) (L := min T 40) hC 4 0 (Nat.zero_le _)
    obtain ⟨k4, k5, k6⟩ := k3 ok.1
    have hl40 : (rdE C T).2.2.length ≤ 40 := by
      have e1 : (rdE C T).2.2.length + 0 ≤ (rdE C T).2.1 := k5
      have e2 : (rdE C T).2.1 = T := ok.2.1
      have e3 := ok.2.2
      omega
    generalize hs : zup (zput σ1 5 (va_cpy (σ1 9) (σ1 5) (Int32.toNatClampNeg 0) (Int32.toNatClampNeg 0) (Int32.toNatClampNeg 40))) 3 2 (σ1 8 1) = σ2
    have g2 : ∀ o i, o ≠ 5 → (o = 3 → i ≠ 2) → σ2 o i = σ1 o i := fun o i p1 p2 => by
      rw [← hs]
      by_cases h3 : o = 3
      · subst h3
        simp only [zup_eq, zput_app, Nat.reduceEqDiff, ↓reduceIte]
        rw [upd_ne (p2 rfl)]
      · simp only [zup_eq, zput_app, if_neg h3, if_neg p1]
    have e52 : ∀ i, i < 40 → σ2 5 i = σ1 9 i := fun i q => by
      rw [← hs, zup_eq, zput_app, if_neg (by decide), zput_app, if_pos rfl]
      exact (cpy_at (σ1 9) (σ1 5) 40 (by decide) i).trans (if_pos q)
    have e32 : σ2 3 2 = nI (rdE C T).2.2.length := by rw [← hs, zup_eq, zput_app, if_pos rfl, upd_eq]; exact hl.1
    refine r_rule (txr f1 (fun o i q => g2 o i (by omega) (by omega))) (fun q => absurd q (by omega)) (fun _ _ σ3 f3 e9 e20 e222 => ⟨rfl, ?_⟩) (fun _ q => absurd ok q)
    have l3 : ∀ o i, o ≠ 214 → o ≠ 222 → σ3 o i = σ2 o i := fun o i p1 p2 => f3 o i (by
      unfold pLr
      rw [Bool.or_eq_false_iff]
      exact ⟨decide_eq_false (by omega), decide_eq_false (by omega)⟩)
    have f12 : Fr dRu σ1 σ2 := fun o i q => g2 o i (by rintro rfl; simp [dRu, dRule] at q) (by rintro rfl rfl; simp [dRu, dRule] at q)
    have f23 : Fr dRu σ2 σ3 := Fr.mono f3 (fun o i q => by
      unfold dRu scr dText dRule at q
      unfold pLr
      rw [Bool.or_eq_false_iff, Bool.or_eq_false_iff, decide_eq_false_iff_not, decide_eq_false_iff_not, decide_eq_false_iff_not] at q
      rw [Bool.or_eq_false_iff, decide_eq_false_iff_not, decide_eq_false_iff_not]
      omega)
    have hgs := gs_pE (C := cutC C (min T 40)) 4 0 ok.1
    have e2 : (pE (cutC C (min T 40)) 4 0).2.1 = T := ok.2.1
    have e3 := ok.2.2
    refine Inv.ruled (l' := (rdE C T).2.2) h (Fr.tr (up (fc f1)) (Fr.tr f12 f23)) ⟨⟨(l3 3 2 (by decide) (by decide)).trans e32, fun i hi => ?_, hl40, k6⟩, Or.inr ⟨T, cutC C (min T 40), e20, hT, ok.2.2, fun i hi => ?_, fun i hi => cutC_ge C _ i (by omega), ?_⟩⟩ (TX.text0 hx ?_ e9 (fun i => ?_) (fun i => ?_))
    · rw [l3 5 i (by decide) (by decide), e52 i (by omega)]
      exact hl.2 i hi
    · have h1 := hgs i (Nat.zero_le _) (by omega)
      rw [cutC_lt (by omega)] at h1
      rw [e222 i hi, cutC_lt (by omega)]
      exact Or.inl ⟨h1, rfl⟩
    · rw [show (true, T, (rdE C T).2.2) = rdE C T from ?_]
      · rfl
      · rw [← ok.1]
        conv => rhs; rw [show rdE C T = ((rdE C T).1, (rdE C T).2.1, (rdE C T).2.2) from rfl, ok.2.1]
    · rw [l3 1 1 (by decide) (by decide), g2 1 1 (by decide) (by decide)]; exact e1
    · rw [l3 2 i (by decide) (by decide), g2 2 i (by decide) (fun q => absurd q (by decide))]; exact f1 2 i (by simp [pLc])
    · rw [l3 219 i (by decide) (by decide), g2 219 i (by decide) (fun q => absurd q (by decide))]; exact f1 219 i (by simp [pLc])
  · refine r_rule (txr f1 (fun _ _ _ => rfl)) (fun q => absurd q (by omega)) (fun _ q => absurd q nok) (fun _ _ σ3 f3 e9 => ⟨rfl, ?_⟩)
    have l3 : ∀ o i, o ≠ 214 → σ3 o i = σ1 o i := fun o i q => f3 o i (decide_eq_false (by omega))
    exact Inv.texted h (Fr.tr (fc f1) (fr f3)) (TX.text0 hx ((l3 1 1 (by decide)).trans e1) e9 (fun i => (l3 2 i (by decide)).trans (f1 2 i (by simp [pLc]))) (fun i => (l3 219 i (by decide)).trans (f1 219 i (by simp [pLc]))))
