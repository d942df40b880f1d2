/-! the lines of THE WALL, one behind the other -/
def psn (C : Nat → Nat) : Nat → Nat
  | 0 => 0
  | j + 1 => (pLn C (psn C j)).2.1 + 1
theorem psn_1 (C : Nat → Nat) (j : Nat) : psn C (j + 1) = (pLn C (psn C j)).2.1 + 1 := rfl
def Gp (C : Nat → Nat) (F k : Nat) : Prop := ∀ j, j < k → F + j < 9 ∧ (pLn C (psn C j)).1 = true ∧ C (pLn C (psn C j)).2.1 = 59
def OutOk (C : Nat → Nat) (L F k : Nat) : Prop := Gp C F k ∧ F + k < 9 ∧ (pLn C (psn C k)).1 = true ∧ (pLn C (psn C k)).2.1 = L
def OutBad (C : Nat → Nat) (L F k p : Nat) : Prop := Gp C F k ∧ ((F + k = 9 ∧ p = psn C k) ∨ (F + k < 9 ∧ (pLn C (psn C k)).1 = false ∧ p = (pLn C (psn C k)).2.1) ∨ (F + k < 9 ∧ (pLn C (psn C k)).1 = true ∧ (pLn C (psn C k)).2.1 ≠ L ∧ C (pLn C (psn C k)).2.1 ≠ 59 ∧ p = (pLn C (psn C k)).2.1))
def Wst (C : Nat → Nat) (F k : Nat) (σ : zS) : Prop := ∀ j, j < k → σ 18 (F + j) = nI (pLn C (psn C j)).2.2.1 ∧ σ 15 (F + j) = nI (pLn C (psn C j)).2.2.2.1 ∧ σ 16 (F + j) = (pLn C (psn C j)).2.2.2.2
theorem Gp.next {C : Nat → Nat} {F k : Nat} (h : Gp C F k) (h1 : F + k < 9) (h2 : (pLn C (psn C k)).1 = true) (h3 : C (pLn C (psn C k)).2.1 = 59) : Gp C F (k + 1) := fun j hj => by
  by_cases q : j = k
  · rw [q]; exact ⟨h1, h2, h3⟩
  · exact h j (by omega)
theorem Gp.le {C : Nat → Nat} {F k : Nat} (h : Gp C F k) (hF : F ≤ 9) : F + k ≤ 9 := by
  cases k with
  | zero => exact hF
  | succ k => have := (h k (by omega)).1; omega
theorem Wst.next {C : Nat → Nat} {F k : Nat} {σ : zS} (h : Wst C F k σ) {σ' : zS} (hs : σ' = zup (zup (zup σ 18 (F + k) (nI (pLn C (psn C k)).2.2.1)) 15 (F + k) (nI (pLn C (psn C k)).2.2.2.1)) 16 (F + k) (pLn C (psn C k)).2.2.2.2) : Wst C F (k + 1) σ' := fun j hj => by
  subst hs
  simp only [zup_eq, zput_app, Nat.reduceEqDiff, ↓reduceIte]
  by_cases q : j = k
  · rw [q, upd_eq, upd_eq, upd_eq]; exact ⟨rfl, rfl, rfl⟩
  · rw [upd_ne (by omega), upd_ne (by omega), upd_ne (by omega)]
    exact h j (by omega)
theorem c_readLines {C : Nat → Nat} {L F d : Nat} (hC : ∀ i, L ≤ i → C i = 999) {σ : zS} (ht : TC C L 0 σ) (hF : F ≤ 9) (h14 : σ 14 3 = nI F) (hL : 0 < L) {Q : Int32 → zS → Prop}
    (h1 : ∀ k, OutOk C L F k → ∀ σ', Fr (pWl F) σ σ' → TC C L L σ' → Wst C F (k + 1) σ' → Q (nI (k + 1)) σ')
    (h0 : ∀ k p, OutBad C L F k p → p ≤ L → ∀ σ', Fr (pWl F) σ σ' → TC C L p σ' → Q (-1) σ') : ZC (d + 6) 141 [.ref 0] σ Q := by
  refine k_141_0 ?_
  rw [c_isOver ht, decide_eq_false (show ¬ 0 = L by omega), if_pos (by decide)]
  have hloop := z_for (F := 9) (P := fun k => ∀ σ1, Gp C F k → TC C L (psn C k) σ1 → Fr (pWl F) σ σ1 → Wst C F k σ1 → Z (d + 5) 141 Q 14 [.ref 0, .int (nI k)] [] σ1) (fun k hk ih => ?_) ?_
  · exact hloop σ (fun j hj => absurd hj (Nat.not_lt_zero j)) ht Fr.rf (fun j hj => absurd hj (Nat.not_lt_zero j))
  · intro σ1 hg t1 f1 w1
    have hle := hg.le hF
    refine k_141_14 ?_
    rw [if_pos (show nI k < 9 from nI_lt (b := 9) hk (by decide)), show σ1 14 3 = nI F from (f1 14 3 (by simp [pWl])).trans h14, nI_add]
    by_cases h9 : F + k = 9
    · refine k_142_0 ?_
      rw [h9, if_neg (by decide), if_neg (by decide), if_pos rfl]
      exact h0 k (psn C k) ⟨hg, Or.inl ⟨h9, rfl⟩⟩ t1.2.2.2.2.2 σ1 f1 t1
    · have up : ∀ {σ2 : zS}, Fr p1w σ1 σ2 → Fr (pWl F) σ σ2 := fun f => Fr.tr f1 (Fr.mono f (fun o i q => by
        unfold pWl at q
        unfold p1w
        rw [decide_eq_false_iff_not] at q ⊢
        omega))
      have wk : ∀ {σ2 : zS}, Fr p1w σ1 σ2 → Wst C F k σ2 := fun f j hj => by
        rw [f 18 (F + j) (decide_eq_false (by omega)), f 15 (F + j) (decide_eq_false (by omega)), f 16 (F + j) (decide_eq_false (by omega))]
        exact w1 j hj
      refine c_readLine hC t1 (x := F + k) (by omega) (fun hok σ2 f2 t2 => ?_) (fun hno σ2 f2 t2 => ?_)
      · rw [if_neg (by decide)]
        generalize hs : zup (zup (zup σ2 18 (F + k) (nI (pLn C (psn C k)).2.2.1)) 15 (F + k) (nI (pLn C (psn C k)).2.2.2.1)) 16 (F + k) (pLn C (psn C k)).2.2.2.2 = σ3
        have w3 : Wst C F (k + 1) σ3 := (wk f2).next hs.symm
        have t3 : TC C L (pLn C (psn C k)).2.1 σ3 := TC.fr t2 (fun i => by rw [← hs]; rfl) (by rw [← hs]; rfl) (by rw [← hs]; exact t2.1) t2.2.2.2.2.2
        have f3 : Fr (pWl F) σ σ3 := by
          rw [← hs]
          refine Fr.tr (up f2) (Fr.tr (Fr.up ?_) (Fr.tr (Fr.up ?_) (Fr.up ?_)))
          all_goals
            unfold pWl
            exact decide_eq_true (by omega)
        rw [c_isOver t3]
        by_cases hp : (pLn C (psn C k)).2.1 = L
        · rw [decide_eq_true hp, if_neg (by decide), show nI k + (1 : Int32) = nI (k + 1) from nI_add k 1]
          rw [hp] at t3
          exact h1 k ⟨hg, by omega, hok, hp⟩ σ3 f3 t3 w3
        · rw [decide_eq_false hp, if_pos (by decide)]
          refine c_pick t3 (c := 59) (by decide) (fun q => ?_) (fun q => ?_)
          · have hl := inL (L := L) hC (a := (pLn C (psn C k)).2.1) (by omega)
            rw [if_neg (by decide), show nI k + (1 : Int32) = nI (k + 1) from nI_add k 1]
            refine ih _ (hg.next (by omega) hok q) (TC.to t3 hl) (Fr.tr f3 (Fr.up (by simp [pWl]))) (fun j hj => ?_)
            exact w3 j hj
          · rw [if_pos rfl]
            exact h0 k _ ⟨hg, Or.inr (Or.inr ⟨by omega, hok, hp, q, rfl⟩)⟩ t3.2.2.2.2.2 σ3 f3 t3
      · rw [if_pos rfl]
        exact h0 k _ ⟨hg, Or.inr (Or.inl ⟨by omega, hno, rfl⟩)⟩ t2.2.2.2.2.2 σ2 (up f2) t2
  · intro σ1 hg t1 f1 w1
    have hle := hg.le hF
    refine k_141_14 ?_
    rw [if_neg (by decide)]
    exact h0 9 (psn C 9) ⟨hg, Or.inl ⟨by omega, rfl⟩⟩ t1.2.2.2.2.2 σ1 f1 t1
