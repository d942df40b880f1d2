/-! new faces come to THE WALL -/
def dWn (o i : Nat) : Bool := (scr o i || dText o i) || ((dWall o i || dRow o i) || (dKept o i || dPast o i))
theorem Inv.wallN {b : Nat} {σ σ' : zS} (h : Inv b σ) (hf : Fr dWn σ σ') (hp : ∀ F, pWall F σ → pRow F b σ → pKept F b σ → pPast F b σ → ∃ F', pWall F' σ' ∧ pRow F' b σ' ∧ pKept F' b σ' ∧ pPast F' b σ') (hc : pText σ') : Inv b σ' := by
  obtain ⟨F, l, W, h1, h2, h3, h4, h5, h6, h7, h8, h9, h10, h11, h12⟩ := h
  have fin : ∀ dep : Nat → Nat → Bool, (∀ o i, dep o i = true → dWn o i = false) → AG dep σ σ' := fun dep q => AG.of hf q
  obtain ⟨F', g1, g2, g3, g4⟩ := hp F h1 h2 h11 h10
  refine ⟨F', l, W, g1, g2, pRule.ag (fin dRule ?_) h3, pWind.ag (fin dWind ?_) h4, hc, pJd.ag (fin dJd ?_) h6, pTold.ag (fin dTold ?_) h7, pCrew.ag (fin dCrew ?_) h8, pSeen.ag (fin dSeen ?_) h9, g4, g3, (hf 214 7 (by decide)).trans h12⟩
  all_goals
    intro o i q
    simp only [dWall, dRow, dRule, dWind, dText, dJd, dCrew, dSeen, dPast, dKept, dWn, scr, dTold, decide_eq_true_eq, decide_eq_false_iff_not, Bool.or_eq_false_iff] at q ⊢
    omega
def pWlc (F o i : Nat) : Bool := decide ((o = 1 ∧ 1 ≤ i ∧ i ≤ 4) ∨ ((o = 15 ∨ o = 16 ∨ o = 18) ∧ F ≤ i))
theorem c_wall {C : Nat → Nat} {T F d : Nat} {σ : zS} (hx : TX C T σ) (h9 : F ≤ 9) (h14 : σ 14 3 = nI F) {Q : Int32 → zS → Prop}
    (h0 : T = 0 → ∀ σ', Fr (pWlc F) σ σ' → σ' 1 1 = 0 → Q 0 σ')
    (hok : ∀ k, 0 < T → T ≤ 76 → OutOk (cutC C (min T 76)) (min T 76) F k → ∀ σ', Fr (pWlc F) σ σ' → σ' 1 1 = 0 → Wst (cutC C (min T 76)) F (k + 1) σ' → Q (nI (k + 1)) (zup (zup σ' 14 3 (nI (F + (k + 1)))) 37 0 0))
    (hno : ∀ k p, 0 < T → (OutBad (cutC C (min T 76)) (min T 76) F k p ∨ (OutOk (cutC C (min T 76)) (min T 76) F k ∧ 76 < T ∧ p = min T 76)) → ∀ σ', Fr (pWlc F) σ σ' → σ' 1 1 = 0 → Q (-1 - nI p) σ') : ZC (d + 7) 84 [.ref 0] σ Q := by
  have h80 := hx.1
  have hC : ∀ i, min T 76 ≤ i → cutC C (min T 76) i = 999 := cutC_ge C _
  refine k_84_0 ?_
  rw [show (Value.int 76) = .int (nI 76) from rfl]
  refine c_open (m := 76) hx (by decide) (fun σ0 f0 t0 m0 => ?_)
  have fo : Fr (pWlc F) σ σ0 := Fr.mono f0 (fun o i q => by
    unfold pOp
    unfold pWlc at q
    rw [decide_eq_false_iff_not] at q ⊢
    omega)
  have f11 : ∀ {σ1 : zS}, Fr (pWl F) σ0 σ1 → Fr (pWlc F) σ (zup σ1 1 1 0) := fun f => Fr.tr fo (Fr.tr (Fr.mono f (fun o i q => by
    unfold pWlc at q
    unfold pWl
    rw [decide_eq_false_iff_not] at q ⊢
    omega)) (Fr.up (decide_eq_true (by omega))))
  by_cases hT : T = 0
  · subst hT
    refine k_141_0 ?_
    rw [c_isOver t0, decide_eq_true (show 0 = min 0 76 by omega), if_neg (by decide), if_neg (by decide), show (Value.int 1) = .int (b2i true) from rfl, c_close t0 m0, decide_eq_true (show 0 = min 0 76 by omega), decide_eq_false (show ¬ 76 < 0 by omega), if_neg (by decide), if_neg (by decide)]
    exact h0 rfl _ (f11 Fr.rf) rfl
  · refine c_readLines hC t0 h9 ((f0 14 3 (by decide)).trans h14) (by omega) (fun k ho σ1 f1 t1 w1 => ?_) (fun k p ho hp σ1 f1 t1 => ?_)
    · have hk : k ≤ 9 := by have := ho.2.1; omega
      have m1 : σ1 1 4 = b2i (decide (76 < T)) := (f1 1 4 (by simp [pWl])).trans m0
      rw [if_neg (nI_m1 (by omega)), show (Value.int 1) = .int (b2i true) from rfl, c_close t1 m1, decide_eq_true rfl, Bool.true_and, Bool.true_and]
      by_cases h76 : 76 < T
      · rw [decide_eq_true h76, if_pos (by decide), c_fault (a := min T 76) (show (zup σ1 1 1 0) 1 2 = nI (min T 76) from t1.1)]
        exact hno k _ (by omega) (Or.inr ⟨ho, h76, rfl⟩) _ (f11 f1) rfl
      · rw [decide_eq_false h76, if_neg (by decide), if_pos (show (0 : Int32) < nI (k + 1) from nI_lt (a := 0) (by omega) (by omega)), show (zup σ1 1 1 0) 14 3 = nI F from (f11 f1 14 3 (by simp [pWlc])).trans h14, nI_add]
        exact hok k (by omega) (by omega) ho _ (f11 f1) rfl (fun j hj => w1 j hj)
    · rw [if_pos rfl, show (Value.int 0) = .int (b2i false) from rfl, c_close t1 ((f1 1 4 (by simp [pWl])).trans m0), Bool.false_and, Bool.false_and, if_pos (by decide), c_fault (a := p) (show (zup σ1 1 1 0) 1 2 = nI p from t1.1)]
      exact hno k p (by omega) (Or.inl ho) _ (f11 f1) rfl
theorem Inv.hwall {b : Nat} {σ : zS} (h : Inv b σ) : ∃ F, F ≤ 9 ∧ σ 14 3 = nI F ∧ σ 214 1 = nI F ∧ pWall F σ := by
  obtain ⟨F, l, W, h1, -⟩ := h
  exact ⟨F, h1.1, h1.2.1, h1.2.2.1, h1⟩
/-- the faces of before are as they were -/
theorem pRow.keep {F b : Nat} {σ σ' : zS} (h : pRow F b σ) (hf : ∀ o i, (17 ≤ o ∧ o ≤ 21 ∨ 32 ≤ o ∧ o ≤ 36) → (o = 18 → i < F) → σ' o i = σ o i) (hr : σ' 215 = σ 215) : pRow F b σ' := by
  obtain ⟨⟨h1, h2, h3, h4, h5⟩, h6, h7⟩ := h
  unfold pRow
  rw [hr]
  refine ⟨⟨fun f q => ?_, fun f q1 q2 => ?_, fun f q1 q2 => ?_, ?_, ?_⟩, CB.ag h6 (fun _ _ _ => rfl) (fun o i q1 q2 => hf o i (by omega) (by omega)), h7⟩
  · rw [hf (17 + 1) f (by omega) (fun _ => q), hf (17 + 2) f (by omega) (by omega), hf (17 + 3) f (by omega) (by omega), hf (17 + 4) f (by omega) (by omega), hf 17 4 (by omega) (by omega)]
    exact h1 f q
  · rw [hf (17 + 2) f (by omega) (by omega), hf (17 + 3) f (by omega) (by omega), hf (17 + 4) f (by omega) (by omega)]
    exact h2 f q1 q2
  · rw [hf 17 4 (by omega) (by omega)]; exact h3 f q1 q2
  · rw [hf 17 5 (by omega) (by omega)]; exact h4
  · rw [hf 17 6 (by omega) (by omega)]; exact h5
