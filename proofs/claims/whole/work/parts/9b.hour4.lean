/-! hour, both -/
def dMt (o i : Nat) : Bool := dMs o i || decide ((o = 1 ∧ i = 1) ∨ (o = 214 ∧ i = 9))
theorem dMt_not {o i : Nat} (h : dMt o i = false) : scrT o i = false ∧ dRow o i = false ∧ dPast o i = false ∧ ¬ (o = 14 ∧ 4 ≤ i) ∧ ¬ ((o = 1 ∧ i = 1) ∨ (o = 214 ∧ i = 9)) := by
  unfold dMt dMs at h
  rw [Bool.or_eq_false_iff, Bool.or_eq_false_iff, Bool.or_eq_false_iff, Bool.or_eq_false_iff, decide_eq_false_iff_not, decide_eq_false_iff_not] at h
  exact ⟨h.1.1, h.1.2.1.1, h.1.2.1.2, h.1.2.2, h.2⟩
theorem fr_dMt {p : Nat → Nat → Bool} {σ σ' : zS} (h : Fr p σ σ') (hp : ∀ o i, p o i = true → dMt o i = true) : Fr dMt σ σ' := Fr.mono h (fun o i q => by
  cases hb : p o i
  · rfl
  · rw [hp o i hb] at q; cases q)
theorem dMt_s {o i : Nat} (h : dMs o i = true) : dMt o i = true := by
  unfold dMt
  rw [h]; rfl
theorem dMt_1 {i : Nat} (h1 : 1 ≤ i) (h2 : i ≤ 4) : dMt 1 i = true := by
  have : i = 1 ∨ i = 2 ∨ i = 3 ∨ i = 4 := by omega
  rcases this with rfl | rfl | rfl | rfl <;> rfl
theorem dMt_past {o i : Nat} (h : 39 ≤ o ∧ o ≤ 181) : dMt o i = true := dMt_s (by
  unfold dMs dPast
  rw [decide_eq_true (show (o = 37 ∧ (i = 0 ∨ i = 2)) ∨ (39 ≤ o ∧ o ≤ 181) ∨ (o = 214 ∧ i = 30) ∨ o = 223 from Or.inr (Or.inl h))]
  simp)
theorem dMt_Hc {o i : Nat} (h : pHc o i = true) : dMt o i = true := by
  rcases of_decide_eq_true h with ⟨rfl, h1, h2⟩ | ⟨rfl, rfl⟩ | rfl | rfl | rfl
  · exact dMt_1 h1 h2
  all_goals rfl
theorem dMt_Hr {o i : Nat} (h : pHr o i = true) : dMt o i = true := by
  rcases of_decide_eq_true h with ⟨rfl, h2⟩ | rfl | rfl
  · have e : ∀ i, i < 34 → (i = 9 ∨ (12 ≤ i ∧ i ≤ 17) ∨ i = 33) → dMt 214 i = true := by decide
    exact e i (by omega) h2
  all_goals rfl
theorem dMt_Ar {o i : Nat} (h : pAr o i = true) : dMt o i = true := by
  unfold pAr at h
  rw [Bool.or_eq_true] at h
  rcases h with h | h
  · exact dMt_s (dMs_pR h)
  · obtain ⟨rfl, rfl⟩ := of_decide_eq_true h
    rfl
