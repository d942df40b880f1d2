/-! how many yawns come from a face -/
def cuB (r : Nat → Int32) (f g : Nat) : Bool := yw false r g && decide (r (27 + g) = nI f)
def cuM (c : MC) (f : Nat) (r : Nat → Int32) : Nat := sm (fun g => b2n (cuB r f g)) c.1
def cuT (c : MC) (f : Nat) : Nat → (Nat → Int32) → Nat
  | 0, _ => 0
  | n + 1, r => cuM c f r + cuT c f n (ms c false r)
theorem cuT_1 (c : MC) (f n : Nat) (r : Nat → Int32) : cuT c f (n + 1) r = cuM c f r + cuT c f n (ms c false r) := rfl
theorem sm_b2n {p : Nat → Bool} : ∀ n, sm (fun g => b2n (p g)) n ≤ n := by
  intro n
  induction n with
  | zero => exact Nat.le_refl 0
  | succ n ih =>
    have h1 : b2n (p n) ≤ 1 := by unfold b2n; split <;> omega
    rw [sm_1]; omega
theorem cuT_cong {c : MC} (h9 : c.1 ≤ 9) {f : Nat} : ∀ n (r r' : Nat → Int32), REq r r' → cuT c f n r = cuT c f n r' := by
  intro n
  induction n with
  | zero => intro _ _ _; rfl
  | succ n ih =>
    intro r r' h
    rw [cuT_1, cuT_1, ih _ _ (ms_cong h9 h)]
    have : cuM c f r = cuM c f r' := sm_cong c.1 (fun g hg => by
      unfold cuB
      rw [yw_cong h (by omega), h (27 + g) (by omega)])
    rw [this]
theorem cuT_le {c : MC} (h9 : c.1 ≤ 9) {f : Nat} : ∀ n (r : Nat → Int32), cuT c f n r ≤ 9 * n := by
  intro n
  induction n with
  | zero => intro _; exact Nat.le_refl 0
  | succ n ih =>
    intro r
    rw [cuT_1]
    have := ih (ms c false r)
    have h2 : cuM c f r ≤ c.1 := sm_b2n c.1
    omega
theorem sm_first (g : Nat → Nat) : ∀ n, sm g (n + 1) = g 0 + sm (fun i => g (i + 1)) n := by
  intro n
  induction n with
  | zero => rw [sm_1]; unfold sm; omega
  | succ n ih => rw [sm_1, ih, sm_1]; omega
theorem sm_rev : ∀ n (g : Nat → Nat), sm (fun i => g (n - 1 - i)) n = sm g n := by
  intro n
  induction n with
  | zero => intro g; rfl
  | succ n ih =>
    intro g
    rw [sm_first, sm_1, ← ih g]
    have : sm (fun i => g (n + 1 - 1 - (i + 1))) n = sm (fun i => g (n - 1 - i)) n := sm_cong n (fun i hi => by congr 1; omega)
    rw [this]
    show g (n + 1 - 1 - 0) + _ = _ + g n
    rw [show n + 1 - 1 - 0 = n by omega]; omega
theorem bc_ys {c : MC} {r : Nat → Int32} (h9 : c.1 ≤ 9) : bc (ysS c false r) = nI (cn (yw false r) c.1) := by
  obtain ⟨n, hn, e⟩ := i_small (x := ysS c false r) (fun f h1 h2 => by unfold ysS; exact bs_out h9 (by omega) h2)
  rw [e, bc512 n hn, ← e]
  congr 1
  rw [cn_ext 9 h9 (fun k h1 h2 => by unfold ysS; exact bs_out h9 h1 (by omega))]
  exact cn_cong c.1 (fun k hk => zb_ysS h9 hk)
/-- the last lines of the book tell from whom -/
theorem ry_last {r : Nat → Int32} {y f : Nat} (hy : r 47 = nI y) (hyb : y + 10 < 1073741824) : ∀ k, k ≤ 9 → ry false r k 47 = nI (y + cn (yw false r) k) ∧ sm (fun j => b2n (decide (ry false r k (48 + 4 * ((y + j) % 60) + 2) = nI f))) (cn (yw false r) k) = sm (fun g => b2n (cuB r f g)) k := by
  intro k
  induction k with
  | zero => intro _; exact ⟨hy, rfl⟩
  | succ k ih =>
    intro hk
    obtain ⟨h1, h2⟩ := ih (by omega)
    have hm := cn_le (yw false r) k
    have e1 : ry false r (k + 1) = if yw false r k then gy false (r 46) (ry false r k) k else ry false r k := rfl
    rw [cn_1, sm_1, e1]
    cases hyw : yw false r k
    · simp only [Bool.false_eq_true, ↓reduceIte, Nat.add_zero]
      refine ⟨h1, ?_⟩
      rw [h2]
      unfold cuB
      rw [hyw]; rfl
    · simp only [↓reduceIte]
      generalize hM : cn (yw false r) k = m at h1 h2 hm ⊢
      have hold := (ry_old (fr := false) (r := r) k (by omega) k (Nat.le_refl k) (by omega)).2.2.2.1
      have hb : ∀ i, 47 < i → gy false (r 46) (ry false r k) k i = bkw (r 46) (ry false r k) k i := fun i hi => gy_bk (by omega) hi
      have hcl : (ry false r k 47).toNatClampNeg = y + m := by rw [h1, nI_clamp (by omega)]
      refine ⟨by rw [gy_47 (by omega), h1]; exact nI_add _ 1, ?_⟩
      rw [sm_1]
      have hnew : gy false (r 46) (ry false r k) k (48 + 4 * ((y + m) % 60) + 2) = r (27 + k) := by
        rw [hb _ (by omega)]
        unfold bkw
        try dsimp only
        rw [hcl, upd_ne (by omega), upd_ne (by omega), upd_eq]
        exact hold
      rw [hnew, ← h2]
      have hsame : sm (fun j => b2n (decide (gy false (r 46) (ry false r k) k (48 + 4 * ((y + j) % 60) + 2) = nI f))) m = sm (fun j => b2n (decide (ry false r k (48 + 4 * ((y + j) % 60) + 2) = nI f))) m := sm_cong m (fun j hj => by
        rw [hb _ (by omega)]
        unfold bkw
        try dsimp only
        rw [hcl, upd_ne (by omega), upd_ne (by omega), upd_ne (by omega), upd_ne (by omega), upd_ne (by omega)])
      rw [hsame]
      unfold cuB
      rw [hyw, Bool.true_and]
theorem ms_last {c : MC} {r : Nat → Int32} {y f : Nat} (h9 : c.1 ≤ 9) (hy : r 47 = nI y) (hyb : y + 10 < 1073741824) : ms c false r 47 = nI (y + cn (yw false r) c.1) ∧ sm (fun j => b2n (decide (ms c false r (48 + 4 * ((y + j) % 60) + 2) = nI f))) (cn (yw false r) c.1) = cuM c f r := by
  obtain ⟨h1, h2⟩ := ry_last (f := f) hy hyb c.1 h9
  refine ⟨by rw [ms_bk h9 (by decide)]; exact h1, ?_⟩
  unfold cuM
  rw [← h2]
  exact sm_cong _ (fun j _ => by rw [ms_bk h9 (by omega)])
theorem c_causedLoop {d n f : Nat} {σ : zS} {c : MC} {l : List Int32} {t : Nat} {r : Nat → Int32} {x2 : Int32} (h : PC c l t r σ) (h14 : σ 14 3 = nI c.1) (hn : n ≤ 300) (ht : t + 300 < 1073741824) {Q : Int32 → zS → Prop}
    (hq : ∀ σ', Fr scC σ σ' → Q (nI (cuT c f n r)) σ') : ∀ w6, Z (d + 5) 164 Q 41 [.ref 0, .int (nI f), .int x2, .int (nI n), .int 0, .int 0, w6] [] σ := by
  have h9 : c.1 ≤ 9 := h.2.2.1.2.1
  have loop : ∀ m k (r : Nat → Int32) (T t : Nat) (σ1 : zS), k + m = n → t + m < 1073741824 → T ≤ 9 * k → Fr scC σ σ1 → PC c l t r σ1 → (∀ σ', Fr scC σ σ' → Q (nI (T + cuT c f m r)) σ') → ∀ w6, Z (d + 5) 164 Q 41 [.ref 0, .int (nI f), .int x2, .int (nI n), .int (nI T), .int (nI k), w6] [] σ1 := by
    intro m
    induction m with
    | zero =>
      intro k r T t σ1 hk ht hT hf p1 hq w6
      refine k_164_41 ?_
      rw [if_neg (nI_nlt (by omega) (by omega))]
      exact hq σ1 hf
    | succ m ih =>
      intro k r T t σ1 hk ht hT hf p1 hq w6
      refine k_164_41 ?_
      rw [if_pos (nI_lt (by omega) (by omega)), show (Value.int 0) = .int (b2i false) from rfl]
      refine c_passT p1 (by omega) (fun σ2 f2 p2 y2 m2 l2 => ?_)
      have f12 := Fr.tr hf f2.spw
      have g14 : σ2 14 3 = nI c.1 := (tC_14 f12.cT).trans h14
      refine z_for (F := c.1) (P := fun g => Z (d + 5) 164 Q 58 [.ref 0, .int (nI f), .int x2, .int (nI n), .int (nI (T + sm (fun g => b2n (cuB r f g)) g)), .int (nI k), .int (nI g)] [] σ2) (fun g hg ih2 => ?_) ?_
      · refine k_164_58 ?_
        rw [g14, if_pos (nI_lt hg (by omega)), y2, s_hasN _ (by omega), zb_ysS h9 hg, show nI g + (1 : Int32) = nI (g + 1) from nI_add g 1]
        have ec : cuB r f g = (yw false r g && decide (r (27 + g) = nI f)) := rfl
        rw [sm_1, ec] at ih2
        have z0 : ∀ x : Nat, nI x + (0 : Int32) = nI x := fun x => Int32.add_zero _
        cases hyw : yw false r g
        · rw [hyw, Bool.false_and] at ih2
          rw [show b2n false = 0 from rfl, Nat.add_zero] at ih2
          rw [if_pos (show b2i false = 0 from rfl), z0]
          exact ih2
        · rw [hyw, Bool.true_and] at ih2
          rw [if_neg (show ¬ b2i true = 0 by decide), if_pos (zin_nI (by omega) (by decide)), zcl (by omega), l2 g hg hyw]
          by_cases hcz : r (27 + g) = nI f
          · rw [if_pos hcz, show nI (T + sm (fun g => b2n (cuB r f g)) g) + (1 : Int32) = nI (T + sm (fun g => b2n (cuB r f g)) g + 1) from nI_add _ 1]
            rw [decide_eq_true hcz, show b2n true = 1 from rfl, ← Nat.add_assoc] at ih2
            exact ih2
          · rw [if_neg hcz, z0]
            rw [decide_eq_false hcz, show b2n false = 0 from rfl, Nat.add_zero] at ih2
            exact ih2
      · refine k_164_58 ?_
        rw [g14, if_neg (nI_nlt (Nat.le_refl _) (by omega)), show nI k + (1 : Int32) = nI (k + 1) from nI_add k 1]
        have h2 : cuM c f r ≤ c.1 := sm_b2n c.1
        refine ih (k + 1) (ms c false r) (T + cuM c f r) (t + 1) σ2 (by omega) (by omega) (by omega) f12 p2 (fun σ' f' => ?_) _
        rw [Nat.add_assoc]
        exact hq σ' f'
  have := loop n 0 r 0 t σ (by omega) (by omega) (Nat.le_refl _) Fr.rf h (fun σ' f' => by rw [Nat.zero_add]; exact hq σ' f')
  exact this
