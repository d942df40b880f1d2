/-! a minute -/
def dMs (o i : Nat) : Bool := scrT o i || ((dRow o i || dPast o i) || decide (o = 14 ∧ 4 ≤ i))
theorem Inv.movedT {b t s x : Nat} {c : MC} {l : List Int32} {r : Nat → Int32} {R : Nat → Nat → Int32} {σ σ' : zS} (h : Inv b σ) (hc : Ctx c l t σ) (ht : t ≤ b) (hs : s ≤ 12) (hx : x < 13) (hf : Fr dMs σ σ') (hcm : CM 17 c.1 r σ') (hcb : CB 32 r σ') (hr : σ' 215 = r) (hw : WR c.1 (t + 1) r) (hq : PQ c.1 b s x R σ') (hp : PRr s R σ') (htd : pTold σ') : Inv (b + 1) σ' := by
  have h' := h.mono (Nat.le_succ b)
  have h9 := hc.h9
  obtain ⟨F, l', W, h1, h2, h3, h4, h5, h6, h7, h8, h9', h10, h11, h12⟩ := h'
  have hFF : F = c.1 := by
    have := h1.2.1.symm.trans hc.h14
    have h2 := h1.1
    exact (nI_eq (by omega) (by omega)).mp this
  subst hFF
  have fin : ∀ dep : Nat → Nat → Bool, (∀ o i, dep o i = true → dMs o i = false) → AG dep σ σ' := fun dep q => AG.of hf q
  obtain ⟨s', x', p1, p2, p3, p4, p5, p6⟩ := pPast.of h9 hs hx hq hp
  have hrow : pRow c.1 (b + 1) σ' := by
    unfold pRow
    rw [hr]
    exact ⟨hcm, hcb, t + 1, by omega, hw⟩
  refine ⟨c.1, l', W, pWall.ag (fin dWall ?_) h1, hrow, pRule.ag (fin dRule ?_) h3, pWind.ag (fin dWind ?_) h4, pText.ag (fin dText ?_) h5, pJd.ag (fin dJd ?_) h6, htd, pCrew.ag (fin dCrew ?_) h8, pSeen.ag (fin dSeen ?_) h9', ⟨s', x', p1, p2, p3, p4, p5, fun j hj => (p6 j hj).mono (Nat.le_succ b)⟩, pKept.ag (fin dKept ?_) h11, (hf 214 7 (by decide)).trans h12⟩
  all_goals
    intro o i q
    simp only [dWall, dRow, dRule, dWind, dText, dJd, dCrew, dSeen, dPast, dKept, dMs, scrT, scr, dTold, decide_eq_true_eq, decide_eq_false_iff_not, Bool.or_eq_false_iff] at q ⊢
    omega
theorem ys_ms {c : MC} {fr : Bool} {r : Nat → Int32} (h9 : c.1 ≤ 9) : ysS c fr r &&& msS c fr r = msS c fr r := by
  apply zb_ext
  intro f hf
  rw [zb_and]
  unfold ysS msS
  rw [zb_bs (by omega) hf, zb_bs (by omega) hf]
  unfold mw
  cases yw fr r f <;> simp
theorem fr_dMs {p : Nat → Nat → Bool} {σ σ' : zS} (h : Fr p σ σ') (hp : ∀ o i, p o i = true → dMs o i = true) : Fr dMs σ σ' := Fr.mono h (fun o i q => by
  cases hb : p o i
  · rfl
  · rw [hp o i hb] at q; cases q)
theorem dMs_A {o i : Nat} (h : dAs o i = true) : dMs o i = true := by
  unfold dAs at h
  unfold dMs scrT
  cases h1 : scr o i
  · rw [h1, Bool.false_or] at h
    rw [h]
    simp
  · simp
theorem dMs_T {o i : Nat} (h : dTold o i = true) : dMs o i = true := by
  unfold dMs scrT
  rw [h]
  simp
theorem dMs_s {o i : Nat} (h : scr o i = true) : dMs o i = true := by
  unfold dMs scrT
  rw [h]
  simp
theorem dMs_row {o i : Nat} (h : (17 ≤ o ∧ o ≤ 21) ∨ o = 215 ∨ (32 ≤ o ∧ o ≤ 36)) : dMs o i = true := dMs_A (dAs_o h i)
theorem dMs_14 {i : Nat} (h : 4 ≤ i) : dMs 14 i = true := by
  unfold dMs
  rw [show decide (14 = 14 ∧ 4 ≤ i) = true from decide_eq_true ⟨rfl, h⟩]
  simp
theorem dMs_go {o i : Nat} (h : pGo o i = true) : dMs o i = true := by
  unfold pGo pw pBk at h
  rw [Bool.or_eq_true, decide_eq_true_eq, decide_eq_true_eq] at h
  rcases h with (rfl | rfl | ⟨rfl, h⟩ | h) | h
  · exact dMs_s rfl
  · exact dMs_s rfl
  · exact dMs_14 h
  · by_cases h22 : o = 22
    · subst h22; exact dMs_s rfl
    · exact dMs_row (Or.inl (by omega))
  · exact dMs_row (Or.inr (Or.inr h))
