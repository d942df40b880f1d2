/-! the fewest, of as few the least: two ways to look for them -/
def pcn (n : Nat) : Nat := cn (zb (nI n)) 9
def vd (w s : Nat) : Bool := decide (nI s &&& (nI w ^^^ (-1)) = 0)
def ltS (a b : Nat) : Prop := pcn a < pcn b ∨ (pcn a = pcn b ∧ a < b)
theorem bc_pcn {n : Nat} (h : n < 512) : bc (nI n) = nI (pcn n) := bc512 n h
theorem pcn_le (n : Nat) : pcn n ≤ 9 := cn_le _ 9
theorem low512 : ∀ s, s < 512 → s ≠ 0 → pcn (s &&& (s - 1)) + 1 = pcn s := by decide +kernel
theorem pcn0 : pcn 0 = 0 := by decide
theorem pcn_0 : ∀ s, s < 512 → pcn s = 0 → s = 0 := by decide +kernel
theorem vd_iff {w s : Nat} (hs : s < 512) : vd w s = true ↔ s &&& (w ^^^ 511) = 0 := by
  unfold vd
  rw [decide_eq_true_iff, zh_andn hs]
  have hlt : s &&& (w ^^^ 511) < 2 ^ 31 := Nat.lt_of_le_of_lt Nat.and_le_left (by omega)
  rw [show (0 : Int32) = nI 0 from rfl, nI_eq hlt (by decide)]
theorem vd_bit {w s : Nat} (hs : s < 512) : vd w s = true ↔ ∀ i, i < 9 → s.testBit i = true → w.testBit i = true := by
  rw [vd_iff hs]
  have h511 : ∀ i, i < 9 → Nat.testBit 511 i = true := by decide
  constructor
  · intro h i hi hb
    have e : (s &&& (w ^^^ 511)).testBit i = false := by rw [h]; exact Nat.zero_testBit i
    rw [Nat.testBit_and, Nat.testBit_xor, hb, h511 i hi] at e
    cases hw : w.testBit i
    · rw [hw] at e; simp at e
    · rfl
  · intro h
    apply Nat.eq_of_testBit_eq
    intro i
    rw [Nat.testBit_and, Nat.testBit_xor, Nat.zero_testBit]
    by_cases hi : i < 9
    · rw [h511 i hi]
      cases hb : s.testBit i
      · rfl
      · rw [h i hi hb]; rfl
    · have : s.testBit i = false := Nat.testBit_lt_two_pow (Nat.lt_of_lt_of_le hs (by
        have : 2 ^ 9 ≤ 2 ^ i := Nat.pow_le_pow_right (by decide) (by omega)
        omega))
      rw [this]; rfl
theorem vd_le {w s : Nat} (hs : s < 512) (h : vd w s = true) : s ≤ w := by
  rw [vd_bit hs] at h
  have e : s &&& w = s := by
    apply Nat.eq_of_testBit_eq
    intro i
    rw [Nat.testBit_and]
    cases hb : s.testBit i
    · rfl
    · by_cases hi : i < 9
      · rw [h i hi hb]; rfl
      · have : s.testBit i = false := Nat.testBit_lt_two_pow (Nat.lt_of_lt_of_le hs (by
          have : 2 ^ 9 ≤ 2 ^ i := Nat.pow_le_pow_right (by decide) (by omega)
          omega))
        rw [this] at hb; cases hb
  rw [← e]
  exact Nat.and_le_right
theorem vd_sub {w s s' : Nat} (hs : s < 512) (hs' : s' < 512) (h : vd w s = true) (hsub : ∀ i, s'.testBit i = true → s.testBit i = true) : vd w s' = true := by
  rw [vd_bit hs] at h
  rw [vd_bit hs']
  exact fun i hi hb => h i hi (hsub i hb)
/-- the set that comes next within w -/
def nx (w s : Nat) : Int32 := if ff (fun j => vd w j && decide (pcn j = pcn s)) (w - s) (s + 1) = -1 then ff (fun j => vd w j && decide (pcn j = pcn s + 1)) (w + 1) 0 else ff (fun j => vd w j && decide (pcn j = pcn s)) (w - s) (s + 1)
theorem nx_spec {w s : Nat} (hw : w < 512) (hs : s < 512) (hv : vd w s = true) : (nx w s = -1 ∧ ∀ s', s' < 512 → vd w s' = true → ltS s' s ∨ s' = s) ∨ ∃ s2, s2 < 512 ∧ nx w s = nI s2 ∧ vd w s2 = true ∧ ltS s s2 ∧ ∀ s', s' < 512 → vd w s' = true → ltS s' s2 → ltS s' s ∨ s' = s := by
  have hsw := vd_le hs hv
  unfold nx
  rcases ff_cases (p := fun j => vd w j && decide (pcn j = pcn s)) (w - s) (s + 1) with ⟨h1, h2⟩ | ⟨j, h1, h2, h3, h4, h5⟩
  · rw [if_pos h1]
    have noSame : ∀ s', s' < 512 → vd w s' = true → pcn s' = pcn s → s' ≤ s := by
      intro s' hs' hv' hp
      rcases Nat.lt_or_ge s s' with hlt | hge
      · have := h2 s' hlt (by have := vd_le hs' hv'; omega)
        simp only [hv', hp, decide_true, Bool.and_self] at this
        cases this
      · exact hge
    rcases ff_cases (p := fun j => vd w j && decide (pcn j = pcn s + 1)) (w + 1) 0 with ⟨g1, g2⟩ | ⟨j, g1, g2, g3, g4, g5⟩
    · refine Or.inl ⟨g1, fun s' hs' hv' => ?_⟩
      have noNext : ∀ s', s' < 512 → vd w s' = true → pcn s' = pcn s + 1 → False := by
        intro s' hs' hv' hp
        have := g2 s' (Nat.zero_le _) (by have := vd_le hs' hv'; omega)
        simp only [hv', hp, decide_true, Bool.and_self] at this
        cases this
      have noMore : ∀ m s', s' < 512 → vd w s' = true → pcn s' = pcn s + 1 + m → False := by
        intro m
        induction m with
        | zero => intro s' hs' hv' hp; exact noNext s' hs' hv' hp
        | succ m ih =>
          intro s' hs' hv' hp
          have hne : s' ≠ 0 := by rintro rfl; rw [pcn0] at hp; omega
          have hl := low512 s' hs' hne
          have hlt : s' &&& (s' - 1) < 512 := Nat.lt_of_le_of_lt Nat.and_le_left hs'
          refine ih (s' &&& (s' - 1)) hlt (vd_sub hs' hlt hv' (fun i hi => ?_)) (by omega)
          rw [Nat.testBit_and, Bool.and_eq_true] at hi
          exact hi.1
      rcases Nat.lt_trichotomy (pcn s') (pcn s) with q | q | q
      · exact Or.inl (Or.inl q)
      · have := noSame s' hs' hv' q
        rcases Nat.lt_or_ge s' s with q2 | q2
        · exact Or.inl (Or.inr ⟨q, q2⟩)
        · exact Or.inr (by omega)
      · exact (noMore (pcn s' - pcn s - 1) s' hs' hv' (by omega)).elim
    · rw [Bool.and_eq_true, decide_eq_true_iff] at g3
      refine Or.inr ⟨j, by omega, g4, g3.1, Or.inl (by omega), fun s' hs' hv' hl => ?_⟩
      rcases Nat.lt_trichotomy (pcn s') (pcn s) with q | q | q
      · exact Or.inl (Or.inl q)
      · have := noSame s' hs' hv' q
        rcases Nat.lt_or_ge s' s with q2 | q2
        · exact Or.inl (Or.inr ⟨q, q2⟩)
        · exact Or.inr (by omega)
      · rcases hl with hl | ⟨hl1, hl2⟩
        · omega
        · have := g5 s' (Nat.zero_le _) hl2
          simp only [hv', show pcn s' = pcn s + 1 by omega, decide_true, Bool.and_self] at this
          cases this
  · have hj9 : ¬ ff (fun j => vd w j && decide (pcn j = pcn s)) (w - s) (s + 1) = -1 := by rw [h4]; exact nI_m1 (by omega)
    rw [if_neg hj9]
    rw [Bool.and_eq_true, decide_eq_true_iff] at h3
    refine Or.inr ⟨j, by omega, h4, h3.1, Or.inr ⟨h3.2.symm, by omega⟩, fun s' hs' hv' hl => ?_⟩
    rcases Nat.lt_trichotomy (pcn s') (pcn s) with q | q | q
    · exact Or.inl (Or.inl q)
    · rcases Nat.lt_trichotomy s' s with q2 | q2 | q2
      · exact Or.inl (Or.inr ⟨q, q2⟩)
      · exact Or.inr q2
      · rcases hl with hl | ⟨hl1, hl2⟩
        · omega
        · have := h5 s' (by omega) hl2
          simp only [hv', q, decide_true, Bool.and_self] at this
          cases this
    · rcases hl with hl | ⟨hl1, hl2⟩ <;> omega
/-- one set behind the other -/
def sC (w : Nat) (G : Nat → Bool) : Nat → Nat → Option Nat
  | 0, _ => none
  | m + 1, s => if G s then some s else if nx w s = -1 then none else sC w G m (nx w s).toNatClampNeg
/-- all sets, by their numbers -/
def rC (w : Nat) (G : Nat → Bool) : Nat → Option Nat
  | 0 => none
  | k + 1 => if (vd w k && (match rC w G k with
      | none => true
      | some b => decide (pcn k < pcn b)) && G k) = true then some k else rC w G k
def MinO (w : Nat) (G : Nat → Bool) (n : Nat) (o : Option Nat) : Prop := match o with
  | none => ∀ s, s < n → vd w s = true → G s = false
  | some s => s < n ∧ vd w s = true ∧ G s = true ∧ ∀ s', s' < n → vd w s' = true → G s' = true → ¬ ltS s' s
theorem rC_min (w : Nat) (G : Nat → Bool) : ∀ n, MinO w G n (rC w G n) := by
  intro n
  induction n with
  | zero => intro s hs; exact absurd hs (Nat.not_lt_zero s)
  | succ n ih =>
    unfold rC
    cases hr : rC w G n with
    | none =>
      rw [hr] at ih
      dsimp only
      by_cases hc : (vd w n && true && G n) = true
      · rw [if_pos hc]
        simp only [Bool.and_eq_true, Bool.and_true] at hc
        refine ⟨Nat.lt_succ_self n, hc.1, hc.2, fun s' hs' hv' hg' hl => ?_⟩
        by_cases hn : s' = n
        · subst hn; rcases hl with hl | hl <;> omega
        · have := ih s' (by omega) hv'; rw [this] at hg'; cases hg'
      · rw [if_neg hc]
        intro s hs hv
        by_cases hn : s = n
        · subst hn
          cases hg : G s
          · rfl
          · rw [hv, hg] at hc; exact absurd rfl hc
        · exact ih s (by omega) hv
    | some b =>
      rw [hr] at ih
      obtain ⟨i1, i2, i3, i4⟩ := ih
      dsimp only
      by_cases hc : (vd w n && decide (pcn n < pcn b) && G n) = true
      · rw [if_pos hc]
        simp only [Bool.and_eq_true, decide_eq_true_iff] at hc
        refine ⟨Nat.lt_succ_self n, hc.1.1, hc.2, fun s' hs' hv' hg' hl => ?_⟩
        by_cases hn : s' = n
        · subst hn; rcases hl with hl | hl <;> omega
        · refine i4 s' (by omega) hv' hg' ?_
          rcases hl with hl | hl
          · exact Or.inl (by omega)
          · exact Or.inl (by omega)
      · rw [if_neg hc]
        refine ⟨by omega, i2, i3, fun s' hs' hv' hg' hl => ?_⟩
        by_cases hn : s' = n
        · subst hn
          rcases hl with hl | ⟨hl, hl2⟩
          · rw [hv', hg', decide_eq_true hl] at hc; exact hc rfl
          · omega
        · exact i4 s' (by omega) hv' hg' hl
theorem cn_lt {p q : Nat → Bool} : ∀ n, (∀ k, k < n → p k = true → q k = true) → (∃ k, k < n ∧ q k = true ∧ p k = false) → cn p n < cn q n := by
  intro n
  induction n with
  | zero => rintro _ ⟨k, hk, -⟩; exact absurd hk (Nat.not_lt_zero k)
  | succ n ih =>
    intro h ⟨k, hk, hq, hp⟩
    have mono : ∀ m, (∀ k, k < m → p k = true → q k = true) → cn p m ≤ cn q m := by
      intro m
      induction m with
      | zero => intro _; exact Nat.le_refl 0
      | succ m ihm =>
        intro hm
        rw [cn_1, cn_1]
        have := ihm (fun k hk => hm k (by omega))
        have hmm := hm m (by omega)
        cases hpm : p m
        · simp only [Bool.false_eq_true, ↓reduceIte]; split <;> omega
        · rw [hmm hpm]; simp only [↓reduceIte]; omega
    rw [cn_1, cn_1]
    by_cases hkn : k = n
    · subst hkn
      have := mono k (fun j hj => h j (by omega))
      rw [hq, hp]; simp only [Bool.false_eq_true, ↓reduceIte]; omega
    · have := ih (fun j hj => h j (by omega)) ⟨k, by omega, hq, hp⟩
      have hn := h n (by omega)
      cases hpn : p n
      · simp only [Bool.false_eq_true, ↓reduceIte]; split <;> omega
      · rw [hn hpn]; simp only [↓reduceIte]; omega
theorem ltS_trans {a b c : Nat} (h1 : ltS a b) (h2 : ltS b c) : ltS a c := by
  unfold ltS at *
  omega
noncomputable def cntS (s : Nat) : Nat := cn (fun j => @decide (ltS j s) (Classical.propDecidable _)) 512
theorem cntS_lt {s s2 : Nat} (hs : s < 512) (h : ltS s s2) : cntS s < cntS s2 := by
  unfold cntS
  refine cn_lt 512 (fun k hk hp => ?_) ⟨s, hs, ?_, ?_⟩
  · simp only [decide_eq_true_eq] at hp ⊢
    exact ltS_trans hp h
  · simp only [decide_eq_true_eq]; exact h
  · simp only [decide_eq_false_iff_not]
    unfold ltS; omega
theorem cntS_512 {s : Nat} (hs : s < 512) : cntS s < 512 := by
  have h : cntS s < cn (fun _ => true) 512 := by
    unfold cntS
    refine cn_lt 512 (fun _ _ _ => rfl) ⟨s, hs, rfl, ?_⟩
    simp only [decide_eq_false_iff_not]
    unfold ltS; omega
  have e : cn (fun _ => true) 512 = 512 := by decide +kernel
  omega
theorem sC_min {w : Nat} (hw : w < 512) (G : Nat → Bool) : ∀ m s, s < 512 → vd w s = true → 512 ≤ cntS s + m → (∀ s', s' < 512 → vd w s' = true → ltS s' s → G s' = false) → MinO w G 512 (sC w G m s) := by
  intro m
  induction m with
  | zero =>
    intro s hs hv hm _
    have := cntS_512 hs
    omega
  | succ m ih =>
    intro s hs hv hm hno
    unfold sC
    cases hg : G s
    · simp only [Bool.false_eq_true, ↓reduceIte]
      rcases nx_spec hw hs hv with ⟨h1, h2⟩ | ⟨s2, h1, h2, h3, h4, h5⟩
      · rw [if_pos h1]
        intro s' hs' hv'
        rcases h2 s' hs' hv' with q | q
        · exact hno s' hs' hv' q
        · rw [q]; exact hg
      · rw [if_neg (by rw [h2]; exact nI_m1 (by omega)), h2, nI_clamp (by omega)]
        have := cntS_lt hs h4
        refine ih s2 h1 h3 (by omega) (fun s' hs' hv' hl => ?_)
        rcases h5 s' hs' hv' hl with q | q
        · exact hno s' hs' hv' q
        · rw [q]; exact hg
    · simp only [↓reduceIte]
      refine ⟨hs, hv, hg, fun s' hs' hv' hg' hl => ?_⟩
      have := hno s' hs' hv' hl
      rw [this] at hg'; cases hg'
theorem MinO_uniq {w : Nat} {G : Nat → Bool} {n : Nat} {o o' : Option Nat} (h : MinO w G n o) (h' : MinO w G n o') : o = o' := by
  cases o with
  | none =>
    cases o' with
    | none => rfl
    | some s =>
      have h3 := h'.2.2.1
      rw [h s h'.1 h'.2.1] at h3; cases h3
  | some s =>
    cases o' with
    | none =>
      have h3 := h.2.2.1
      rw [h' s h.1 h.2.1] at h3; cases h3
    | some s' =>
      have h1 := h.2.2.2 s' h'.1 h'.2.1 h'.2.2.1
      have h2 := h'.2.2.2 s h.1 h.2.1 h.2.2.1
      have : s = s' := by
        unfold ltS at h1 h2
        omega
      rw [this]
theorem vd0 (w : Nat) : vd w 0 = true := by
  unfold vd
  rw [decide_eq_true_iff]
  exact Int32.zero_and
theorem cnt0 (s' : Nat) (hs : s' < 512) : ¬ ltS s' 0 := by
  unfold ltS
  rw [pcn0]
  omega
/-- both ways find the same -/
theorem search_eq {w : Nat} (hw : w < 512) (G : Nat → Bool) : sC w G 512 0 = rC w G 512 :=
  MinO_uniq (sC_min hw G 512 0 (by decide) (vd0 w) (by omega) (fun s' hs' _ hl => absurd hl (cnt0 s' hs'))) (rC_min w G 512)
theorem rC_stop {w : Nat} (G : Nat → Bool) : ∀ m, w + 1 + m ≤ 512 → rC w G (w + 1 + m) = rC w G (w + 1) := by
  intro m
  induction m with
  | zero => intro _; rfl
  | succ m ih =>
    intro h
    show rC w G (w + 1 + m + 1) = _
    unfold rC
    have hv : vd w (w + 1 + m) = false := by
      cases hv : vd w (w + 1 + m)
      · rfl
      · have := vd_le (by omega) hv; omega
    rw [hv]
    simp only [Bool.false_and, Bool.false_eq_true, ↓reduceIte]
    rw [ih (by omega)]
    rfl
theorem rC_cong {w : Nat} {G G' : Nat → Bool} : ∀ n, (∀ s, s < n → vd w s = true → G s = G' s) → rC w G n = rC w G' n := by
  intro n
  induction n with
  | zero => intro _; rfl
  | succ n ih =>
    intro h
    unfold rC
    rw [ih (fun s hs => h s (by omega))]
    cases hv : vd w n
    · simp
    · rw [h n (by omega) hv]
