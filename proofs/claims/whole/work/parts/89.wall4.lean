/-! the reference reads a line of THE WALL, and all of them -/
theorem r_readFace {C : Nat → Nat} {T m k a d : Nat} (hk : k ≤ 8) {σ : zS} (hR : RT C T m σ) (hF : RF a σ) (ha : a ≤ min T m) {Q : Int32 → zS → Prop}
    (h1 : (pLn (cutC C (min T m)) a).1 = true → ∀ σ', Fr (p21 k) σ σ' → σ' 221 (3 * k) = nI (pLn (cutC C (min T m)) a).2.2.1 → σ' 221 (3 * k + 1) = nI (pLn (cutC C (min T m)) a).2.2.2.1 → σ' 221 (3 * k + 2) = (pLn (cutC C (min T m)) a).2.2.2.2 → RF (pLn (cutC C (min T m)) a).2.1 σ' ∨ (97 ≤ cutC C (min T m) (pLn (cutC C (min T m)) a).2.1 ∧ cutC C (min T m) (pLn (cutC C (min T m)) a).2.1 ≤ 105 ∧ RB (min T m) (pLn (cutC C (min T m)) a).2.1 σ') → Q 0 σ')
    (h0 : (pLn (cutC C (min T m)) a).1 = false → ∀ σ', Fr (p21 k) σ σ' → RB (min T m) (pLn (cutC C (min T m)) a).2.1 σ' → Q 0 σ') : ZC (d + 4) 191 [.ref 214, .int (nI (3 * k))] σ Q := by
  have h80 := hR.1
  have hC := hR.to.2.2.2.2
  generalize hD : cutC C (min T m) = D at h1 h0 hC
  have fat : ∀ {σ : zS} {i : Nat} {v : Int32}, (i = 16 ∨ i = 17) → Fr (p21 k) σ (zup σ 214 i v) := fun h => Fr.up (decide_eq_true (Or.inl ⟨rfl, h⟩))
  have fcm : ∀ {σ : zS} {i : Nat} {v : Int32}, 3 * k ≤ i → Fr (p21 k) σ (zup σ 221 i v) := fun h => Fr.up (decide_eq_true (Or.inr ⟨rfl, h⟩))
  have rt : ∀ {σ' : zS}, Fr (p21 k) σ σ' → R219 D (min T m) σ' := fun f => by rw [← hD]; exact (hR.p21 f).to
  have e1 : nI (3 * k) + (1 : Int32) = nI (3 * k + 1) := nI_add _ 1
  have e2 : nI (3 * k) + (2 : Int32) = nI (3 * k + 2) := nI_add _ 2
  have z0 : zin (nI (3 * k)) 27 = true := zin_nI (by omega) (by decide)
  have z1 : zin (nI (3 * k + 1)) 27 = true := zin_nI (by omega) (by decide)
  have z2 : zin (nI (3 * k + 2)) 27 = true := zin_nI (by omega) (by decide)
  -- something was wrong, and nothing more is read
  have bad : ∀ (σ1 : zS) p (v : Int32), Fr (p21 k) σ σ1 → RB (min T m) p σ1 → (∀ σ', Fr (p21 k) σ σ' → RB (min T m) p σ' → Q 0 σ') → ZC (d + 3) 187 [.ref 214, .int 1] σ1 (fun v6 s5 => ZC (d + 3) 185 [.ref 214, .int 62] (zup (zup s5 221 (3 * k + 1) v6) 221 (3 * k + 2) 0) (fun v8 s7 => if v8 = 0 then Q 0 s7 else ZC (d + 3) 188 [.ref 214] s7 (fun v10 s9 => Z (d + 3) 191 Q 65 [.ref 214, .int (nI (3 * k)), .int v10, (.retAddr 0)] [] (zup s9 221 (3 * k + 2) (zshl 1 v10))))) := by
    intro σ1 p v f1 hB hq
    rw [r_digitB hB]
    have hB2 : RB (min T m) p (zup (zup σ1 221 (3 * k + 1) 0) 221 (3 * k + 2) 0) := hB.ag rfl rfl
    rw [r_passesB hB2, if_pos rfl]
    exact hq _ (Fr.tr f1 (Fr.tr (fcm (by omega)) (fcm (by omega)))) hB2
  refine k_191_0 ?_
  simp only [e1, e2, z0, z1, z2, ↓reduceIte]
  rw [zcl (by omega), zcl (by omega), zcl (by omega)]
  unfold pLn at h1 h0
  rw [show (Value.int 0) = .int (nI 0) from rfl]
  refine r_digit (rt Fr.rf) Fr.rf hF ha (lo := 0) (by decide) (fun q => ?_) (fun q => ?_)
  · have l0 := inL (L := min T m) hC (a := a) (by omega)
    rw [if_pos (show 48 ≤ D a ∧ D a ≤ 57 by omega)] at h1 h0
    have f1 : Fr (p21 k) σ (zup (zup σ 214 16 (nI (a + 1))) 221 (3 * k) (nI (D a - 48))) := Fr.tr (fat (Or.inl rfl)) (fcm (by omega))
    have hF1 : RF (a + 1) (zup (zup σ 214 16 (nI (a + 1))) 221 (3 * k) (nI (D a - 48))) := (RF.to hF).ag rfl rfl
    refine r_needF (rt f1) hF1 (by omega) (c := 47) (by decide) (fun q1 => ?_) (fun q1 => ?_)
    · have l1 := inL (L := min T m) hC (a := a + 1) (by omega)
      rw [if_pos q1] at h1 h0
      have f2 := Fr.tr f1 (fat (σ := zup (zup σ 214 16 (nI (a + 1))) 221 (3 * k) (nI (D a - 48))) (v := nI (a + 1 + 1)) (Or.inl rfl))
      have hF2 := RF.to (b := a + 2) hF1
      rw [show (Value.int 1) = .int (nI 1) from rfl]
      refine r_digit (rt f2) Fr.rf hF2 (by omega) (lo := 1) (by decide) (fun q2 => ?_) (fun q2 => ?_)
      · have l2 := inL (L := min T m) hC (a := a + 2) (by omega)
        rw [if_pos (show 49 ≤ D (a + 2) ∧ D (a + 2) ≤ 57 by omega)] at h1 h0
        generalize hs3 : zup (zup (zup (zup (zup (zup σ 214 16 (nI (a + 1))) 221 (3 * k) (nI (D a - 48))) 214 16 (nI (a + 1 + 1))) 214 16 (nI (a + 2 + 1))) 221 (3 * k + 1) (nI (D (a + 2) - 48))) 221 (3 * k + 2) 0 = σ3
        have f3 : Fr (p21 k) σ σ3 := by
          rw [← hs3]
          exact Fr.tr f2 (Fr.tr (fat (Or.inl rfl)) (Fr.tr (fcm (by omega)) (fcm (by omega))))
        have hF3 : RF (a + 3) σ3 := by
          rw [← hs3]
          exact (RF.to (b := a + 3) hF2).ag rfl rfl
        have k0 : σ3 221 (3 * k) = nI (D a - 48) := by
          rw [← hs3]
          simp only [zup_eq, zput_app, Nat.reduceEqDiff, ↓reduceIte]
          rw [upd_ne (by omega), upd_ne (by omega), upd_eq]
        have k1 : σ3 221 (3 * k + 1) = nI (D (a + 2) - 48) := by
          rw [← hs3]
          simp only [zup_eq, zput_app, Nat.reduceEqDiff, ↓reduceIte]
          rw [upd_ne (by omega), upd_eq]
        have k2 : σ3 221 (3 * k + 2) = 0 := by
          rw [← hs3]
          simp only [zup_eq, zput_app, Nat.reduceEqDiff, ↓reduceIte, upd_eq]
        refine r_passesF (rt f3) hF3 (by omega) (c := 62) (by decide) (fun q3 => ?_) (fun q3 => ?_)
        · have l3 := inL (L := min T m) hC (a := a + 3) (by omega)
          rw [if_pos q3] at h1 h0
          rw [if_neg (by decide)]
          have f4 := Fr.tr f3 (fat (σ := σ3) (v := nI (a + 3 + 1)) (Or.inl rfl))
          have hF4 := RF.to (b := a + 4) hF3
          refine r_letter (rt f4) Fr.rf hF4 (by omega) (fun q4 => ?_) (fun q4 => ?_)
          · have l4 := inL (L := min T m) hC (a := a + 4) (by omega)
            rw [if_pos (show 97 ≤ D (a + 4) ∧ D (a + 4) ≤ 105 by omega)] at h1 h0
            generalize hs5 : zup (zup (zup σ3 214 16 (nI (a + 3 + 1))) 214 16 (nI (a + 4 + 1))) 221 (3 * k + 2) (zshl 1 (nI (D (a + 4) - 97))) = σ5
            have f5 : Fr (p21 k) σ σ5 := by
              rw [← hs5]
              exact Fr.tr f4 (Fr.tr (fat (Or.inl rfl)) (fcm (by omega)))
            have hF5 : RF (a + 5) σ5 := by
              rw [← hs5]
              exact (RF.to (b := a + 5) hF4).ag rfl rfl
            have m0 : σ5 221 (3 * k) = nI (D a - 48) := by
              rw [← hs5]
              simp only [zup_eq, zput_app, Nat.reduceEqDiff, ↓reduceIte]
              rw [upd_ne (by omega)]; exact k0
            have m1 : σ5 221 (3 * k + 1) = nI (D (a + 2) - 48) := by
              rw [← hs5]
              simp only [zup_eq, zput_app, Nat.reduceEqDiff, ↓reduceIte]
              rw [upd_ne (by omega)]; exact k1
            have m2 : σ5 221 (3 * k + 2) = zshl 1 (nI (D (a + 4) - 97)) := by
              rw [← hs5]
              simp only [zup_eq, zput_app, Nat.reduceEqDiff, ↓reduceIte, upd_eq]
            refine r_letLoop (T := T) (m := m) (C := C) hk 9 (a + 5) (D (a + 4) - 97) _ σ5 _ (by omega) (by omega) (hR.p21 f5) hF5 (by omega) m2 (fun σ' f' e' r' => ?_)
            rw [hD] at e' r'
            refine h1 rfl σ' (Fr.tr f5 (Fr.mono f' (fun o i q => ?_))) ((f' 221 (3 * k) (decide_eq_false (by omega))).trans m0) ((f' 221 (3 * k + 1) (decide_eq_false (by omega))).trans m1) e' r'
            unfold p21 at q
            rw [decide_eq_false_iff_not] at q ⊢
            omega
          · rw [if_neg (show ¬ (97 ≤ D (a + 4) ∧ D (a + 4) ≤ 105) by omega)] at h1 h0
            have hB : RB (min T m) (a + 4) (zup (zup σ3 214 16 (nI (a + 3 + 1))) 214 17 (nI (a + 4))) := RF.bad hF4 (by omega) (by omega)
            have hB2 : RB (min T m) (a + 4) (zup (zup (zup σ3 214 16 (nI (a + 3 + 1))) 214 17 (nI (a + 4))) 221 (3 * k + 2) (zshl 1 0)) := hB.ag rfl rfl
            refine k_191_65 ?_
            rw [r_fine0 hB2, if_pos rfl]
            exact h0 rfl _ (Fr.tr f4 (Fr.tr (fat (Or.inr rfl)) (fcm (by omega)))) hB2
        · rw [if_neg q3] at h1 h0
          rw [if_pos rfl]
          exact h1 rfl σ3 f3 k0 k1 k2 (Or.inl hF3)
      · rw [if_neg (show ¬ (49 ≤ D (a + 2) ∧ D (a + 2) ≤ 57) by omega)] at h1 h0
        have hB : RB (min T m) (a + 2) (zup (zup (zup (zup σ 214 16 (nI (a + 1))) 221 (3 * k) (nI (D a - 48))) 214 16 (nI (a + 1 + 1))) 214 17 (nI (a + 2))) := RF.bad hF2 (by omega) (by omega)
        have hB2 : RB (min T m) (a + 2) (zup (zup (zup (zup (zup (zup σ 214 16 (nI (a + 1))) 221 (3 * k) (nI (D a - 48))) 214 16 (nI (a + 1 + 1))) 214 17 (nI (a + 2))) 221 (3 * k + 1) 0) 221 (3 * k + 2) 0) := hB.ag rfl rfl
        rw [r_passesB hB2, if_pos rfl]
        exact h0 rfl _ (Fr.tr f2 (Fr.tr (fat (Or.inr rfl)) (Fr.tr (fcm (by omega)) (fcm (by omega))))) hB2
    · rw [if_neg q1] at h1 h0
      have hB := RF.bad (p := a + 1) hF1 (L := min T m) (by omega) (by omega)
      exact bad _ (a + 1) 0 (Fr.tr f1 (fat (Or.inr rfl))) hB (fun σ' f' b' => h0 rfl σ' f' b')
  · rw [if_neg (show ¬ (48 ≤ D a ∧ D a ≤ 57) by omega)] at h1 h0
    have hB : RB (min T m) a (zup (zup σ 214 17 (nI a)) 221 (3 * k) 0) := (RF.bad hF ha (by omega)).ag rfl rfl
    rw [show (47 : Int32) = nI 47 from rfl, r_needB hB]
    exact bad _ a 0 (Fr.tr (fat (Or.inr rfl)) (fcm (by omega))) hB (fun σ' f' b' => h0 rfl σ' f' b')
