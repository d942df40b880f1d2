/-! how far: the one stable and tight valuation -/
def DW (F : Nat) (E : Nat → Nat → Bool) (w : Nat → Nat → Nat) (s : Nat) (v : Nat → Nat) : Prop :=
  v s = 0 ∧ (∀ f, f < F → v f ≤ 1000000) ∧ ∀ f, f < F → f ≠ s → v f < 1000000 → ∃ o, o < F ∧ E o f = true ∧ v o < 1000000 ∧ v o + w o f ≤ v f
def DS (F : Nat) (E : Nat → Nat → Bool) (w : Nat → Nat → Nat) (v : Nat → Nat) : Prop := ∀ o, o < F → ∀ f, f < F → E o f = true → v o < 1000000 → v f ≤ v o + w o f
def upN (v : Nat → Nat) (f x : Nat) : Nat → Nat := fun i => if i = f then x else v i
theorem upN_eq (v : Nat → Nat) (f x : Nat) : upN v f x f = x := if_pos rfl
theorem upN_ne {v : Nat → Nat} {f x i : Nat} (h : i ≠ f) : upN v f x i = v i := if_neg h
theorem sm_up {v : Nat → Nat} {f x : Nat} : ∀ n, f < n → sm (upN v f x) n + v f = sm v n + x := by
  have off : ∀ n, n ≤ f → sm (upN v f x) n = sm v n := fun n h => sm_cong n (fun k hk => upN_ne (by omega))
  intro n
  induction n with
  | zero => intro h; omega
  | succ n ih =>
    intro h
    rw [sm_1, sm_1]
    by_cases q : f = n
    · subst q
      rw [off f (Nat.le_refl f), upN_eq]; omega
    · have := ih (by omega)
      rw [upN_ne (show n ≠ f by omega)]; omega
theorem DW.up {F : Nat} {E : Nat → Nat → Bool} {w : Nat → Nat → Nat} {s : Nat} {v : Nat → Nat} (h : DW F E w s v) {o f : Nat} (ho : o < F) (hE : E o f = true) (h1 : v o < 1000000) (h2 : v o + w o f < v f) (hf : f < F) : DW F E w s (upN v f (v o + w o f)) ∧ sm (upN v f (v o + w o f)) F < sm v F := by
  obtain ⟨g1, g2, g3⟩ := h
  have hfs : f ≠ s := by rintro rfl; omega
  have hof : o ≠ f := by rintro rfl; omega
  have hv := g2 f hf
  refine ⟨⟨?_, fun g hg => ?_, fun g hg hgs hgv => ?_⟩, ?_⟩
  · rw [upN_ne (fun q => hfs q.symm)]; exact g1
  · by_cases q : g = f
    · rw [q, upN_eq]; omega
    · rw [upN_ne q]; exact g2 g hg
  · by_cases q : g = f
    · subst q
      refine ⟨o, ho, hE, by rw [upN_ne hof]; exact h1, ?_⟩
      rw [upN_ne hof, upN_eq]; exact Nat.le_refl _
    · rw [upN_ne q] at hgv ⊢
      obtain ⟨o', k1, k2, k3, k4⟩ := g3 g hg hgs hgv
      refine ⟨o', k1, k2, ?_, ?_⟩
      · by_cases q2 : o' = f
        · subst q2; rw [upN_eq]; omega
        · rw [upN_ne q2]; exact k3
      · by_cases q2 : o' = f
        · subst q2; rw [upN_eq]; omega
        · rw [upN_ne q2]; exact k4
  · have := sm_up (v := v) (x := v o + w o f) F hf
    omega
theorem dw_ex {F : Nat} {E : Nat → Nat → Bool} {w : Nat → Nat → Nat} {s : Nat} : ∀ m v, sm v F ≤ m → DW F E w s v → ∃ v', DW F E w s v' ∧ DS F E w v' := by
  intro m
  induction m with
  | zero =>
    intro v hm h
    refine ⟨v, h, fun o ho f hf hE h1 => ?_⟩
    by_cases q : v f ≤ v o + w o f
    · exact q
    · have := (h.up ho hE h1 (by omega) hf).2
      omega
  | succ m ih =>
    intro v hm h
    by_cases q : DS F E w v
    · exact ⟨v, h, q⟩
    · have : ∃ o f, o < F ∧ f < F ∧ E o f = true ∧ v o < 1000000 ∧ v o + w o f < v f := by
        refine Classical.byContradiction (fun hn => q (fun o ho f hf hE h1 => ?_))
        by_cases q2 : v f ≤ v o + w o f
        · exact q2
        · exact absurd ⟨o, f, ho, hf, hE, h1, by omega⟩ hn
      obtain ⟨o, f, ho, hf, hE, h1, h2⟩ := this
      obtain ⟨k1, k2⟩ := h.up ho hE h1 h2 hf
      exact ih _ (by omega) k1
def d0 (s : Nat) : Nat → Nat := fun f => if f = s then 0 else 1000000
theorem d0_DW {F : Nat} {E : Nat → Nat → Bool} {w : Nat → Nat → Nat} {s : Nat} : DW F E w s (d0 s) := by
  refine ⟨if_pos rfl, fun f _ => ?_, fun f _ hfs hv => ?_⟩
  · unfold d0; split <;> omega
  · unfold d0 at hv
    rw [if_neg hfs] at hv; omega
theorem d_le {F : Nat} {E : Nat → Nat → Bool} {w : Nat → Nat → Nat} {s : Nat} {v v' : Nat → Nat} (hw : ∀ o f, o < F → f < F → 1 ≤ w o f) (h1 : DW F E w s v) (h2 : DS F E w v) (h3 : DW F E w s v') : ∀ n f, f < F → v' f ≤ n → v f ≤ v' f := by
  intro n
  induction n with
  | zero =>
    intro f hf hn
    by_cases q : f = s
    · rw [q, h1.1]; omega
    · obtain ⟨o, k1, k2, k3, k4⟩ := h3.2.2 f hf q (by omega)
      have := hw o f k1 hf
      omega
  | succ n ih =>
    intro f hf hn
    by_cases q : f = s
    · rw [q, h1.1]; omega
    · by_cases q2 : v' f < 1000000
      · obtain ⟨o, k1, k2, k3, k4⟩ := h3.2.2 f hf q q2
        have hw1 := hw o f k1 hf
        have k5 := ih o k1 (by omega)
        have := h2 o k1 f hf k2 (by omega)
        omega
      · have := h1.2.1 f hf
        omega
theorem d_uniq {F : Nat} {E : Nat → Nat → Bool} {w : Nat → Nat → Nat} {s : Nat} {v v' : Nat → Nat} (hw : ∀ o f, o < F → f < F → 1 ≤ w o f) (h1 : DW F E w s v) (h2 : DS F E w v) (h3 : DW F E w s v') (h4 : DS F E w v') {f : Nat} (hf : f < F) : v f = v' f :=
  Nat.le_antisymm (d_le hw h1 h2 h3 (v' f) f hf (Nat.le_refl _)) (d_le hw h3 h4 h1 (v f) f hf (Nat.le_refl _))
/-- the one valuation -/
theorem d_exists (F : Nat) (E : Nat → Nat → Bool) (w : Nat → Nat → Nat) (s : Nat) : ∃ v, DW F E w s v ∧ DS F E w v := dw_ex _ (d0 s) (Nat.le_refl _) d0_DW
/-- tight: it comes over one nearer -/
theorem d_tight {F : Nat} {E : Nat → Nat → Bool} {w : Nat → Nat → Nat} {s : Nat} {v : Nat → Nat} (h1 : DW F E w s v) (h2 : DS F E w v) {f : Nat} (hf : f < F) (hs : f ≠ s) (hv : v f < 1000000) : ∃ o, o < F ∧ E o f = true ∧ v o < 1000000 ∧ v f = v o + w o f := by
  obtain ⟨o, k1, k2, k3, k4⟩ := h1.2.2 f hf hs hv
  exact ⟨o, k1, k2, k3, Nat.le_antisymm (h2 o k1 f hf k2 k3) k4⟩
/-- how many are nearer -/
def rkN (v : Nat → Nat) (F k : Nat) : Nat := cn (fun g => decide (v g < k)) F
theorem cn_mono {p q : Nat → Bool} : ∀ n, (∀ k, k < n → p k = true → q k = true) → cn p n ≤ cn q n := fun n h => by
  have := cn_diff (p := p) (q := q) n h
  omega
theorem cn_strict {p q : Nat → Bool} {a : Nat} : ∀ n, a < n → (∀ k, k < n → p k = true → q k = true) → p a = false → q a = true → cn p n < cn q n := fun n ha h h1 h2 => by
  have := cn_diff (p := p) (q := q) n h
  have h3 : ∀ m, a < m → 0 < cn (fun k => q k && !p k) m := by
    intro m
    induction m with
    | zero => intro h; omega
    | succ m ih =>
      intro hm
      rw [cn_1]
      by_cases q2 : a = m
      · subst q2; rw [h1, h2]; simp
      · have := ih (by omega); omega
  have := h3 n ha
  omega
theorem rk_lt {v : Nat → Nat} {F f o : Nat} (ho : o < F) (h : v o < v f) : rkN v F (v o) < rkN v F (v f) :=
  cn_strict F ho (fun k _ hk => decide_eq_true (by have := of_decide_eq_true hk; omega)) (decide_eq_false (by omega)) (decide_eq_true h)
theorem rk_F {v : Nat → Nat} {F f : Nat} (hf : f < F) : rkN v F (v f) < F := by
  have h1 := cn_strict (p := fun g => decide (v g < v f)) (q := fun _ => true) F hf (fun _ _ _ => rfl) (decide_eq_false (by omega)) rfl
  have h2 : ∀ n, cn (fun _ => true) n ≤ n := fun n => cn_le _ n
  have h3 := h2 F
  unfold rkN
  omega
