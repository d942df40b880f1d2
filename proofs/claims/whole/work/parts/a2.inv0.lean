theorem zB2_ex : ∃ v σ, zB2 = some (v, 237, σ) ∧ (∀ o, o < 238 → zkok σ o = true) ∧ zgood σ = true := by
  have h := zB2_ok
  generalize zB2 = x at h ⊢
  unfold zBok at h
  split at h
  · rename_i v n σ
    split at h
    · rename_i h1
      split at h
      · rename_i h2
        split at h
        · rename_i h3
          refine ⟨v, σ, by rw [Nat.eq_of_beq_eq_true h1], fun o ho => List.all_eq_true.mp h2 o (List.mem_range.mpr ho), h3⟩
        · exact absurd h (by decide)
      · exact absurd h (by decide)
    · exact absurd h (by decide)
  · exact absurd h (by decide)
theorem zgood_at {σ : zS} (h : zgood σ = true) : (∀ q ∈ zcells, σ q.1 q.2.1 = q.2.2) ∧ (∀ f, f < 9 → σ 19 f = 0 ∧ σ 20 f = -1 ∧ σ 21 f = -1) ∧ (∀ p, p < 60 → σ 33 p = σ 215 (48 + 4 * p) ∧ σ 34 p = σ 215 (48 + 4 * p + 1) ∧ σ 35 p = σ 215 (48 + 4 * p + 2) ∧ σ 36 p = σ 215 (48 + 4 * p + 3)) ∧ (∀ i, i < 80 → σ 2 i = 0 ∧ σ 219 i = 0) := by
  unfold zgood at h
  simp only [Bool.and_eq_true] at h
  obtain ⟨⟨⟨h1, h2⟩, h3⟩, h4⟩ := h
  refine ⟨fun q hq => ?_, fun f hf => ?_, fun p hp => ?_, fun i hi => ?_⟩
  · have := List.all_eq_true.mp h1 q hq
    simpa using this
  · have := List.all_eq_true.mp h2 f (List.mem_range.mpr hf)
    simp only [Bool.and_eq_true, beq_iff_eq] at this
    exact ⟨this.1.1, this.1.2, this.2⟩
  · have := List.all_eq_true.mp h3 p (List.mem_range.mpr hp)
    simp only [Bool.and_eq_true, beq_iff_eq] at this
    exact ⟨this.1.1.1, this.1.1.2, this.1.2, this.2⟩
  · have := List.all_eq_true.mp h4 i (List.mem_range.mpr hi)
    simp only [Bool.and_eq_true, beq_iff_eq] at this
    exact ⟨this.1, this.2⟩
theorem Inv.zero {σ : zS} (h : zgood σ = true) : Inv 0 σ := by
  obtain ⟨hc, h9, h60, h80⟩ := zgood_at h
  have g : ∀ o i v, (o, i, v) ∈ zcells → σ o i = v := fun o i v q => hc _ q
  refine ⟨0, [1000, 3, -62], 0, ⟨by omega, g 14 3 0 (by decide), g 214 1 0 (by decide), fun f hf => by omega, fun f hf => by omega⟩, ⟨⟨fun f hf => by omega, fun f _ hf => ⟨(h9 f hf).1, (h9 f hf).2.1, (h9 f hf).2.2⟩, fun f _ hf => by rw [g 17 4 0 (by decide)]; exact zb_0 f, (g 17 5 0 (by decide)).trans (g 215 45 0 (by decide)).symm, (g 17 6 0 (by decide)).trans (g 215 46 0 (by decide)).symm⟩, ⟨0, by decide, g 215 47 0 (by decide), g 32 4 0 (by decide), g 32 5 0 (by decide), fun p hp => h60 p hp⟩, 0, by omega, g 215 46 0 (by decide), fun f hf => by omega, fun f hf => by omega, 0, by omega, g 215 47 0 (by decide)⟩, ⟨⟨g 3 2 3 (by decide), fun i hi => ?_, by decide, ?_⟩, Or.inl ⟨g 214 20 0 (by decide), rfl⟩⟩, ⟨by decide, g 3 5 0 (by decide), g 214 6 0 (by decide), fun i hi => by omega⟩, ⟨0, by decide, g 1 1 0 (by decide), g 214 9 0 (by decide), fun i hi => ⟨0, Or.inl ⟨by decide, (h80 i hi).1⟩, Or.inl ⟨by decide, (h80 i hi).2⟩⟩⟩, (g 0 13 0 (by decide)).trans (g 214 4 0 (by decide)).symm, ⟨0, by decide, g 0 12 0 (by decide), g 214 11 0 (by decide), fun i hi => by omega⟩, ⟨0, by decide, g 183 3 0 (by decide), g 214 43 0 (by decide), fun i hi => by omega⟩, ⟨0, by decide, g 187 0 0 (by decide), g 214 46 0 (by decide), fun i hi => by omega⟩, ⟨0, 0, by decide, by decide, g 37 0 0 (by decide), g 37 2 0 (by decide), g 214 30 0 (by decide), fun j hj => by omega⟩, ⟨0, by decide, g 214 47 0 (by decide), fun j hj => ?_⟩, g 214 7 0 (by decide)⟩
  · have h3 : i = 0 ∨ i = 1 ∨ i = 2 := by simp at hi; omega
    rcases h3 with rfl | rfl | rfl
    · exact g 5 0 1000 (by decide)
    · exact g 5 1 3 (by decide)
    · exact g 5 2 (-62) (by decide)
  · exact One_bin (One_var (k := 0) (by decide)) (One_num (k := 3) (by decide)) (c := 62) (by decide) (by decide) (by decide)
  · have h2 : j = 0 ∨ j = 1 := by omega
    rcases h2 with rfl | rfl
    · exact Or.inl ⟨g 192 0 0 (by decide), g 235 0 0 (by decide)⟩
    · exact Or.inl ⟨g 203 0 0 (by decide), g 235 1 0 (by decide)⟩
