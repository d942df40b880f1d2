/-! what a run comes to, said forwards: Z d mi Q pc ls st σ = from here method mi comes to its end with Q -/
abbrev zN : Nat := 238
def Z (d mi : Nat) (Q : Int32 → zS → Prop) (pc : Nat) (ls st : List Value) (σ : zS) : Prop := ∃ k v σ', zrunI zkS false (zcal zkS false d) (zCode mi) k pc ls st 238 σ = some (v, 238, σ') ∧ Q v σ'
/-- a call of method mi, d deep -/
def ZC : Nat → Nat → List Value → zS → (Int32 → zS → Prop) → Prop
  | 0, _, _, _, _ => False
  | d + 1, mi, as, σ, Q => Z d mi Q 0 (zloc mi as) [] σ
def zif (n : Nat) (P : Prop) : Prop := match Nat.beq n 238 with
  | true => P
  | false => False
theorem zif_iff {n : Nat} {P : Prop} (h : zif n P) : n = 238 ∧ P := by
  unfold zif at h
  split at h
  · rename_i hq
    exact ⟨Nat.eq_of_beq_eq_true hq, h⟩
  · exact h.elim
theorem zif_map {n : Nat} {P P' : Prop} (f : P → P') (h : zif n P) : zif n P' := by
  unfold zif at h ⊢
  split at h
  · rename_i hq
    exact f h
  · exact h.elim
def zStepW (K : Nat → List Value → List Value → zS → Prop) (Q : Int32 → zS → Prop) (C : Nat → List Value → zS → (Int32 → zS → Prop) → Prop) (e : zE) (ls st : List Value) (σ : zS) : Prop :=
  zStep False (fun pc ls st n σ => zif n (K pc ls st σ)) (fun v n σ => zif n (Q v σ)) (fun mi as n σ kk => zif n (C mi as σ (fun v σ' => kk v 238 σ'))) zkS false e ls st 238 σ
/-! more steps do no harm -/
theorem zrunI_up {zk : zKd} {al : Bool} {cal : Nat → Nat → List Value → Nat → zS → Option (Int32 × Nat × zS)} {code : List zE} (hc : ∀ k mi as n σ x, cal k mi as n σ = some x → cal (k + 1) mi as n σ = some x) : ∀ k pc ls st n σ x, zrunI zk al cal code k pc ls st n σ = some x → zrunI zk al cal code (k + 1) pc ls st n σ = some x := by
  intro k
  induction k with
  | zero => intro pc ls st n σ x h; cases h
  | succ k ih =>
    intro pc ls st n σ x h
    unfold zrunI at h ⊢
    split at h
    · cases h
    · rename_i e he
      refine (zStep_rel (fun (y z : Option (Int32 × Nat × zS)) => ∀ x, y = some x → z = some x) ?_ ?_ ?_ ?_ zk al e ls st n σ) x h
      · intro x q; cases q
      · intro pc ls st n σ x q; exact ih _ _ _ _ _ _ q
      · intro v n σ x q; exact q
      · intro mi as n σ k1 k2 hk x q
        split at q
        · cases q
        · rename_i v n' σ' hq
          rw [hc _ _ _ _ _ _ hq]
          exact hk _ _ _ _ q
theorem zcal_up (zk : zKd) (al : Bool) : ∀ d k mi as n σ x, zcal zk al d k mi as n σ = some x → zcal zk al d (k + 1) mi as n σ = some x := by
  intro d
  induction d with
  | zero => intro k mi as n σ x h; cases h
  | succ d ih =>
    intro k mi as n σ x h
    have h2 : zrun zk al d k mi as n σ = some x := h
    show zrun zk al d (k + 1) mi as n σ = some x
    rw [zrun_eq] at h2 ⊢
    exact zrunI_up ih _ _ _ _ _ _ _ h2
theorem zrunI_le {zk : zKd} {al : Bool} {d : Nat} {code : List zE} {k k' : Nat} (hk : k ≤ k') {pc : Nat} {ls st : List Value} {n : Nat} {σ : zS} {x : Int32 × Nat × zS} (h : zrunI zk al (zcal zk al d) code k pc ls st n σ = some x) : zrunI zk al (zcal zk al d) code k' pc ls st n σ = some x := by
  induction k' with
  | zero => rw [show k = 0 by omega] at h; exact h
  | succ k' ih =>
    by_cases hq : k = k' + 1
    · rw [← hq]; exact h
    · exact zrunI_up (zcal_up zk al d) _ _ _ _ _ _ _ (ih (by omega))
theorem zcal_le {zk : zKd} {al : Bool} {d k k' : Nat} (hk : k ≤ k') {mi : Nat} {as : List Value} {n : Nat} {σ : zS} {x : Int32 × Nat × zS} (h : zcal zk al d k mi as n σ = some x) : zcal zk al d k' mi as n σ = some x := by
  induction k' with
  | zero => rw [show k = 0 by omega] at h; exact h
  | succ k' ih =>
    by_cases hq : k = k' + 1
    · rw [← hq]; exact h
    · exact zcal_up zk al d _ _ _ _ _ _ (ih (by omega))
theorem ZC_run {d mi : Nat} {as : List Value} {σ : zS} {Q : Int32 → zS → Prop} : ZC d mi as σ Q ↔ ∃ k v σ', zcal zkS false d k mi as 238 σ = some (v, 238, σ') ∧ Q v σ' := by
  cases d with
  | zero => exact ⟨fun h => h.elim, fun ⟨k, v, σ', h, _⟩ => by cases h⟩
  | succ d =>
    constructor
    · rintro ⟨k, v, σ', h, q⟩
      exact ⟨k, v, σ', by show zrun zkS false d k mi as 238 σ = _; rw [zrun_eq]; exact h, q⟩
    · rintro ⟨k, v, σ', h, q⟩
      have h2 : zrun zkS false d k mi as 238 σ = some (v, 238, σ') := h
      rw [zrun_eq] at h2
      exact ⟨k, v, σ', h2, q⟩
theorem ZC_mono {d mi : Nat} {as : List Value} {σ : zS} {Q Q' : Int32 → zS → Prop} (hq : ∀ v σ, Q v σ → Q' v σ) (h : ZC d mi as σ Q) : ZC d mi as σ Q' := by
  obtain ⟨k, v, σ', h, q⟩ := ZC_run.mp h
  exact ZC_run.mpr ⟨k, v, σ', h, hq _ _ q⟩
theorem Z_mono {d mi : Nat} {Q Q' : Int32 → zS → Prop} {pc : Nat} {ls st : List Value} {σ : zS} (hq : ∀ v σ, Q v σ → Q' v σ) (h : Z d mi Q pc ls st σ) : Z d mi Q' pc ls st σ := by
  obtain ⟨k, v, σ', h, q⟩ := h
  exact ⟨k, v, σ', h, hq _ _ q⟩
/-- where a run comes to is one -/
theorem ZC_det {d mi : Nat} {as : List Value} {σ : zS} {v : Int32} {σ' : zS} (h : ZC d mi as σ (fun v' σ'' => v' = v ∧ σ'' = σ')) (Q : Int32 → zS → Prop) : ZC d mi as σ Q = Q v σ' := by
  refine propext ⟨fun hq => ?_, fun hq => ZC_mono (fun _ _ q => by rw [q.1, q.2]; exact hq) h⟩
  obtain ⟨k, v1, σ1, h1, q1, q2⟩ := ZC_run.mp h
  obtain ⟨k2, v2, σ2, h2, q3⟩ := ZC_run.mp hq
  have a1 := zcal_le (Nat.le_max_left k k2) h1
  have a2 := zcal_le (Nat.le_max_right k k2) h2
  rw [a1] at a2
  cases a2
  rw [← q1, ← q2]
  exact q3
/-- one step -/
theorem Z_step {d mi pc : Nat} {Q : Int32 → zS → Prop} {ls st : List Value} {σ : zS} {e : zE} (he : zAt (zCode mi) pc = some e) (h : zStepW (Z d mi Q) Q (ZC d) e ls st σ) : Z d mi Q pc ls st σ := by
  have h3 := zStep_rel (fun (F : Nat → Option (Int32 × Nat × zS)) (P : Prop) => P → ∃ k v σ', (∀ k', k ≤ k' → F k' = some (v, 238, σ')) ∧ Q v σ') (bad1 := fun _ => none) (K1 := fun pc ls st n σ k => zrunI zkS false (zcal zkS false d) (zCode mi) k pc ls st n σ) (R1 := fun v n σ _ => some (v, n, σ)) (C1 := fun mi as n σ kk k => match zcal zkS false d k mi as n σ with
      | none => none
      | some (v, n', σ') => kk v n' σ' k) ?_ ?_ ?_ ?_ zkS false e ls st 238 σ h
  · obtain ⟨k, v, σ', h4, q⟩ := h3
    refine ⟨k + 1, v, σ', ?_, q⟩
    have h5 := h4 k (Nat.le_refl k)
    unfold zrunI
    rw [he]
    dsimp only
    rw [← h5]
    refine zStep_rel (fun (x : Option (Int32 × Nat × zS)) (F : Nat → Option (Int32 × Nat × zS)) => x = F k) ?_ ?_ ?_ ?_ zkS false e ls st 238 σ
    · rfl
    · intro pc ls st n σ; rfl
    · intro v n σ; rfl
    · intro mi as n σ k1 k2 hk
      split
      · rename_i hq
        rw [hq]
      · rename_i hq
        rw [hq]
        exact hk _ _ _
  · intro q; exact q.elim
  · intro pc ls st n σ q0
    obtain ⟨rfl, k, v, σ', h4, q⟩ := zif_iff q0
    exact ⟨k, v, σ', fun k' hk => zrunI_le hk h4, q⟩
  · intro v n σ q0
    obtain ⟨rfl, q⟩ := zif_iff q0
    exact ⟨0, v, σ, fun _ _ => rfl, q⟩
  · intro mi2 as n σ k1 k2 hk q0
    obtain ⟨rfl, hc⟩ := zif_iff q0
    obtain ⟨k, v, σ1, h4, q⟩ := ZC_run.mp hc
    obtain ⟨k3, v3, σ3, h5, q3⟩ := hk _ _ _ q
    refine ⟨max k k3, v3, σ3, fun k' hk' => ?_, q3⟩
    rw [zcal_le (Nat.le_trans (Nat.le_max_left k k3) hk') h4]
    exact h5 k' (Nat.le_trans (Nat.le_max_right k k3) hk')
/-- many steps, to the places that are named -/
def zwp (d mi : Nat) (Q : Int32 → zS → Prop) (code : List zE) (cuts : List Nat) : Nat → Nat → List Value → List Value → zS → Prop
  | 0, pc, ls, st, σ => Z d mi Q pc ls st σ
  | k + 1, pc, ls, st, σ => if cuts.any (Nat.beq pc) = true then Z d mi Q pc ls st σ else match zAt code pc with
    | none => False
    | some e => zStepW (zwp d mi Q code cuts k) Q (ZC d) e ls st σ
theorem zStepW_mono {K1 K2 : Nat → List Value → List Value → zS → Prop} {Q : Int32 → zS → Prop} {d : Nat} (hK : ∀ pc ls st σ, K1 pc ls st σ → K2 pc ls st σ) {e : zE} {ls st : List Value} {σ : zS} (h : zStepW K1 Q (ZC d) e ls st σ) : zStepW K2 Q (ZC d) e ls st σ := by
  unfold zStepW at h ⊢
  refine zStep_rel (fun (P1 P2 : Prop) => P1 → P2) ?_ ?_ ?_ ?_ zkS false e ls st 238 σ h
  · exact id
  · intro pc ls st n σ
    exact zif_map (hK pc ls st σ)
  · intro v n σ
    exact id
  · intro mi as n σ k1 k2 hk
    exact zif_map (ZC_mono (fun v σ' q => hk v 238 σ' q))
theorem zwp_ok {d mi : Nat} {Q : Int32 → zS → Prop} {code : List zE} (hc : zCode mi = code) {cuts : List Nat} : ∀ k pc ls st σ, zwp d mi Q code cuts k pc ls st σ → Z d mi Q pc ls st σ := by
  intro k
  induction k with
  | zero => intro pc ls st σ h; exact h
  | succ k ih =>
    intro pc ls st σ h
    unfold zwp at h
    split at h
    · exact h
    · split at h
      · exact h.elim
      · rename_i e he
        exact Z_step (by rw [hc]; exact he) (zStepW_mono (fun pc ls st σ q => ih pc ls st σ q) h)
/-- from a place, its own step first -/
def zwp1 (d mi : Nat) (Q : Int32 → zS → Prop) (code : List zE) (cuts : List Nat) (k pc : Nat) (ls st : List Value) (σ : zS) : Prop := match zAt code pc with
  | none => False
  | some e => zStepW (zwp d mi Q code cuts k) Q (ZC d) e ls st σ
theorem zwp1_ok {d mi : Nat} {Q : Int32 → zS → Prop} {code : List zE} (hc : zCode mi = code) {cuts : List Nat} (k : Nat) {pc : Nat} {ls st : List Value} {σ : zS} (h : zwp1 d mi Q code cuts k pc ls st σ) : Z d mi Q pc ls st σ := by
  unfold zwp1 at h
  split at h
  · exact h.elim
  · rename_i e he
    exact Z_step (by rw [hc]; exact he) (zStepW_mono (fun pc ls st σ q => zwp_ok hc k pc ls st σ q) h)
