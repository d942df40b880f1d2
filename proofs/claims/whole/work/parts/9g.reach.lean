/-! whom it reaches, in how many steps -/
def eR (c : MC) (r : Nat → Int32) (s f o : Nat) : Bool := !zb (r 45) s && byV c r f o
theorem d_chain {F s : Nat} {E : Nat → Nat → Bool} {v : Nat → Nat} (h1 : DW F E (fun _ _ => 1) s v) (h2 : DS F E (fun _ _ => 1) v) : ∀ n f, f < F → v f = n → n < 1000000 → ∀ j, j ≤ n → ∃ o, o < F ∧ v o = j := by
  intro n
  induction n with
  | zero => intro f hf hv _ j hj; exact ⟨f, hf, by omega⟩
  | succ n ih =>
    intro f hf hv hn j hj
    by_cases q : j = n + 1
    · exact ⟨f, hf, by omega⟩
    · have hfs : f ≠ s := by rintro rfl; rw [h1.1] at hv; omega
      obtain ⟨o, k1, k2, k3, k4⟩ := d_tight h1 h2 hf hfs (by omega)
      exact ih o k1 (by omega) (by omega) j (by omega)
theorem d_rank {F s : Nat} {E : Nat → Nat → Bool} {v : Nat → Nat} (h1 : DW F E (fun _ _ => 1) s v) (h2 : DS F E (fun _ _ => 1) v) : ∀ n f, f < F → v f = n → n < 1000000 → n ≤ rkN v F n := by
  intro n
  induction n with
  | zero => intro f hf hv _; omega
  | succ n ih =>
    intro f hf hv hn
    obtain ⟨o, k1, k2⟩ := d_chain h1 h2 (n + 1) f hf hv hn n (by omega)
    have h3 := ih o k1 k2 (by omega)
    have h4 := rk_lt (v := v) (F := F) (f := f) (o := o) k1 (by omega)
    rw [k2, hv] at h4
    omega
theorem d_first {F s : Nat} {E : Nat → Nat → Bool} {v : Nat → Nat} (h1 : DW F E (fun _ _ => 1) s v) (h2 : DS F E (fun _ _ => 1) v) (h9 : F ≤ 9) : ∃ K, K ≤ 9 ∧ (∀ j, j < K → ∃ o, o < F ∧ v o = j) ∧ ∀ o, o < F → v o ≠ K := by
  have key : ∀ n, (∀ j, j < n → ∃ o, o < F ∧ v o = j) ∨ ∃ K, K < n ∧ (∀ j, j < K → ∃ o, o < F ∧ v o = j) ∧ ∀ o, o < F → v o ≠ K := by
    intro n
    induction n with
    | zero => exact Or.inl (fun j hj => absurd hj (Nat.not_lt_zero j))
    | succ n ih =>
      rcases ih with h | ⟨K, k1, k2, k3⟩
      · by_cases q : ∃ o, o < F ∧ v o = n
        · refine Or.inl (fun j hj => ?_)
          by_cases q2 : j = n
          · rw [q2]; exact q
          · exact h j (by omega)
        · exact Or.inr ⟨n, by omega, h, fun o ho q2 => q ⟨o, ho, q2⟩⟩
      · exact Or.inr ⟨K, by omega, k2, k3⟩
  rcases key 10 with h | ⟨K, k1, k2, k3⟩
  · obtain ⟨o, q1, q2⟩ := h 9 (by decide)
    have h3 := d_rank h1 h2 9 o q1 q2 (by decide)
    have h4 := rk_F (v := v) (F := F) q1
    rw [q2] at h4
    omega
  · exact ⟨K, by omega, k2, k3⟩
theorem c_seersX {d : Nat} {σ : zS} {c : MC} {r : Nat → Int32} (x : Int32) (hc : CW 14 c σ) (h45 : σ 17 5 = r 45) (Q : Int32 → zS → Prop) : ZC (d + 4) 76 [.ref 14, .int x] σ Q = Q (bs (fun o => !zb (r 45) o && !decide (sg (nI c.1) c.2.2.1 o &&& x = 0)) c.1) σ := by
  have h9 := hc.2.1
  refine s_of (fun Q hq => k_76_0 ?_) Q
  refine z_for (F := c.1) (P := fun k => Z (d + 3) 76 Q 4 [.ref 14, .int x, .int (bs (fun o => !decide (sg (nI c.1) c.2.2.1 o &&& x = 0)) k), .int (nI k)] [] σ) (fun k hk ih => ?_) ?_
  · refine k_76_4 ?_
    rw [hc.1, if_pos (nI_lt hk (by omega)), c_sight14 (by omega), hc.1, sg_congr (e := nI c.1) (hc.2.2.1 k hk).2, s_bit, show nI k + (1 : Int32) = nI (k + 1) from nI_add k 1]
    rw [bs_1] at ih
    by_cases hz : sg (nI c.1) c.2.2.1 k &&& x = 0
    · rw [decide_eq_true hz, if_neg (show ¬ ((!true) = true) by decide)] at ih
      rw [if_pos hz, i_or0]
      exact ih
    · rw [decide_eq_false hz, if_pos (show (!false) = true from rfl)] at ih
      rw [if_neg hz]
      exact ih
  · refine k_76_4 ?_
    rw [hc.1, if_neg (nI_nlt (Nat.le_refl _) (by omega)), h45]
    have e : bs (fun o => !decide (sg (nI c.1) c.2.2.1 o &&& x = 0)) c.1 &&& (r 45 ^^^ (-1)) = bs (fun o => !zb (r 45) o && !decide (sg (nI c.1) c.2.2.1 o &&& x = 0)) c.1 := zb_ext (fun g hg => by
      rw [zb_and, zb_bs (by omega) hg, zb_bs (by omega) hg, zb_not hg]
      cases decide (g < c.1) <;> cases decide (sg (nI c.1) c.2.2.1 g &&& x = 0) <;> cases zb (r 45) g <;> rfl)
    rw [e]
    exact hq
def gS (v : Nat → Nat) (F k : Nat) : Int32 := bs (fun o => decide (v o ≤ k)) F
def lS (v : Nat → Nat) (F k : Nat) : Int32 := bs (fun o => decide (v o = k)) F
theorem lS_0 {v : Nat → Nat} {F k : Nat} (h9 : F ≤ 9) : lS v F k = 0 ↔ ∀ o, o < F → v o ≠ k := by
  constructor
  · intro h o ho hv
    have : zb (lS v F k) o = true := by
      unfold lS
      rw [zb_bs (by omega) (by omega), decide_eq_true ho, decide_eq_true hv]; rfl
    rw [h, zb_0] at this; cases this
  · intro h
    refine zb_ext (fun o ho => ?_)
    unfold lS
    rw [zb_0, zb_bs (by omega) ho]
    by_cases q : o < F
    · rw [decide_eq_false (h o q)]; simp
    · rw [decide_eq_false q]; rfl
theorem and_0 {x y : Int32} : x &&& y = 0 ↔ ∀ f, f < 32 → ¬ (zb x f = true ∧ zb y f = true) := by
  constructor
  · intro h f hf q
    have : zb (x &&& y) f = true := by rw [zb_and, q.1, q.2]; rfl
    rw [h, zb_0] at this; cases this
  · intro h
    refine zb_ext (fun f hf => ?_)
    rw [zb_and, zb_0]
    cases h1 : zb x f <;> cases h2 : zb y f <;> try rfl
    exact absurd ⟨h1, h2⟩ (h f hf)
theorem zb_sgF {F : Nat} {S : Nat → Int32} {o f : Nat} (h9 : F ≤ 9) (hf : f < 32) (h : zb (sg (nI F) S o) f = true) : f < F := by
  unfold sg at h
  rw [zb_and, zb_and, zb_all F h9 f hf] at h
  by_cases q : f < F
  · exact q
  · rw [decide_eq_false q] at h; simp at h
theorem c_reachLoop {d s K : Nat} {σ : zS} {c : MC} {r : Nat → Int32} {v : Nat → Nat} (hc : CW 14 c σ) (h45 : σ 17 5 = r 45) (hs : s < c.1) (hp : zb (r 45) s = false) (h1 : DW c.1 (eR c r s) (fun _ _ => 1) s v) (h2 : DS c.1 (eR c r s) (fun _ _ => 1) v) (hK9 : K ≤ 9) (hK : ∀ j, j < K → ∃ o, o < c.1 ∧ v o = j) (hK2 : ∀ o, o < c.1 → v o ≠ K) {Q : Int32 → zS → Prop}
    (hq : ∀ σ', Fr frTC σ σ' → TL 1 (tv1 (nI (K - 1))) σ' → Q (gS v c.1 K &&& (zshl 1 (nI s) ^^^ (-1))) σ') : Z (d + 4) 108 Q 31 [.ref 0, .int (nI s), .int (gS v c.1 0), .int (lS v c.1 0), .int 0, .int 0] [] σ := by
  have h9 := hc.2.1
  have hK0 : 0 < K := by
    rcases Nat.eq_zero_or_pos K with q | q
    · exact absurd (h1.1.trans q.symm) (hK2 s hs)
    · exact q
  have hloop := z_for (F := K) (P := fun k => Z (d + 4) 108 Q 31 [.ref 0, .int (nI s), .int (gS v c.1 k), .int (lS v c.1 k), .int (nI (if k < K then k else k - 1)), .int (nI k)] [] σ) (fun k hk ih => ?_) ?_
  · rw [if_pos hK0] at hloop
    exact hloop
  · refine k_108_31 ?_
    have hne : ¬ lS v c.1 k = 0 := fun q => by
      obtain ⟨o, q1, q2⟩ := hK k hk
      exact (lS_0 h9).mp q o q1 q2
    have el : bs (fun o => !zb (r 45) o && !decide (sg (nI c.1) c.2.2.1 o &&& lS v c.1 k = 0)) c.1 &&& (gS v c.1 k ^^^ (-1)) = lS v c.1 (k + 1) := zb_ext (fun o ho => by
      rw [zb_and, zb_not ho]
      unfold gS
      conv => rhs; unfold lS
      rw [zb_bs (by omega) ho, zb_bs (by omega) ho, zb_bs (by omega) ho]
      by_cases hoF : o < c.1
      · rw [decide_eq_true hoF, Bool.true_and, Bool.true_and, Bool.true_and]
        by_cases hv : v o = k + 1
        · rw [decide_eq_true hv, decide_eq_false (show ¬ v o ≤ k by omega)]
          have hos : o ≠ s := by rintro rfl; rw [h1.1] at hv; omega
          obtain ⟨f, k1, k2, k3, k4⟩ := d_tight h1 h2 hoF hos (by omega)
          unfold eR byV at k2
          rw [Bool.and_eq_true, Bool.and_eq_true, Bool.not_eq_true'] at k2
          rw [k2.2.1, decide_eq_false (fun q => (and_0.mp q) f (by omega) ⟨k2.2.2, by
            unfold lS
            rw [zb_bs (by omega) (by omega), decide_eq_true k1, decide_eq_true (show v f = k by omega)]; rfl⟩)]
          rfl
        · rw [decide_eq_false hv]
          by_cases hle : v o ≤ k
          · rw [decide_eq_true hle]; simp
          · cases hz : zb (r 45) o
            · by_cases hx : sg (nI c.1) c.2.2.1 o &&& lS v c.1 k = 0
              · rw [decide_eq_true hx]; simp
              · exfalso
                refine hx (and_0.mpr (fun f hf q => ?_))
                have hfF := zb_sgF h9 hf q.1
                have hvf : v f = k := by
                  have := q.2
                  unfold lS at this
                  rw [zb_bs (by omega) hf, Bool.and_eq_true] at this
                  exact of_decide_eq_true this.2
                have := h2 f hfF o hoF (by unfold eR byV; rw [hp, hz, q.1]; rfl) (by omega)
                have : v o ≤ v f + 1 := this
                omega
            · simp
      · rw [decide_eq_false hoF]; simp)
    have eg : gS v c.1 k ||| lS v c.1 (k + 1) = gS v c.1 (k + 1) := zb_ext (fun o ho => by
      unfold gS lS
      rw [zb_or, zb_bs (by omega) ho, zb_bs (by omega) ho, zb_bs (by omega) ho]
      by_cases hoF : o < c.1
      · rw [decide_eq_true hoF, Bool.true_and, Bool.true_and, Bool.true_and]
        by_cases q1 : v o ≤ k
        · rw [decide_eq_true q1, decide_eq_true (show v o ≤ k + 1 by omega)]; rfl
        · rw [decide_eq_false q1]
          by_cases q2 : v o = k + 1
          · rw [decide_eq_true q2, decide_eq_true (show v o ≤ k + 1 by omega)]; rfl
          · rw [decide_eq_false q2, decide_eq_false (show ¬ v o ≤ k + 1 by omega)]; rfl
      · rw [decide_eq_false hoF]; rfl)
    rw [if_pos (show nI k < 9 from nI_lt (b := 9) (by omega) (by decide)), if_neg hne, c_seersX (lS v c.1 k) hc h45, el, eg, if_pos hk, show nI k + (1 : Int32) = nI (k + 1) from nI_add k 1, show nI k + (0 : Int32) = nI k from by rw [Int32.add_zero]]
    by_cases q : k + 1 < K
    · rw [if_neg (fun q2 => by
        obtain ⟨o, q3, q4⟩ := hK (k + 1) q
        exact (lS_0 h9).mp q2 o q3 q4)]
      rw [if_pos q] at ih
      exact ih
    · have hkK : k + 1 = K := by omega
      rw [if_pos ((lS_0 h9).mpr (by rw [hkK]; exact hK2))]
      rw [if_neg q, Nat.add_sub_cancel] at ih
      exact ih
  · rw [if_neg (Nat.lt_irrefl K)]
    refine k_108_31 ?_
    have h0 := (lS_0 h9).mpr hK2
    simp only [s_bit]
    rw [if_pos h0]
    split
    · exact c_tell1 hq
    · exact c_tell1 hq
/-! the reference -/
def p228 (o i : Nat) : Bool := decide (o = 228)
def FA (F : Nat) (v : Nat → Nat) (σ : zS) : Prop := ∀ f, f < F → σ 228 f = nI (v f)
theorem FA.up {F f x : Nat} {v : Nat → Nat} {σ : zS} (h : FA F v σ) : FA F (upN v f x) (zup σ 228 f (nI x)) := fun g hg => by
  rw [zup_eq, zput_app, if_pos rfl]
  by_cases q : g = f
  · rw [q, upd_eq, upN_eq]
  · rw [upd_ne q, upN_ne q]; exact h g hg
theorem r_farStep {d s F : Nat} {c : MC} {r : Nat → Int32} (hF : F = c.1) (h9 : F ≤ 9) (hp : zb (r 45) s = false) {v0 : Nat → Nat} {Q : Int32 → zS → Prop} {σ0 : zS} (h1 : σ0 214 1 = nI F) (h215 : σ0 215 = r) (h217 : σ0 217 = c.2.2.1)
    (hend0 : ∀ σ', Fr p228 σ0 σ' → FA F v0 σ' → DS F (eR c r s) (fun _ _ => 1) v0 → Q 0 σ')
    (hendm : ∀ v σ', Fr p228 σ0 σ' → FA F v σ' → DW F (eR c r s) (fun _ _ => 1) s v → sm v F < sm v0 F → ∀ x3 : Int32, x3 ≠ 0 → ∀ w4 w5 w6, Z (d + 3) 241 Q 54 [.ref 214, .int (nI s), .int 0, .int x3, w4, w5, w6] [] σ') :
    ∀ σ', Fr p228 σ0 σ' → FA F v0 σ' → DW F (eR c r s) (fun _ _ => 1) s v0 → ∀ w5 w6, Z (d + 3) 241 Q 63 [.ref 214, .int (nI s), .int 0, .int 0, .int 0, w5, w6] [] σ' := by
  have hout := z_for (F := F) (P := fun f => ∀ v σ1 (m : Int32) w5 w6, Fr p228 σ0 σ1 → FA F v σ1 → DW F (eR c r s) (fun _ _ => 1) s v → (m = 0 → v = v0 ∧ ∀ f', f' < f → ∀ o, o < F → eR c r s f' o = true → v f' < 1000000 → v o ≤ v f' + 1) → (m ≠ 0 → sm v F < sm v0 F) → Z (d + 3) 241 Q 63 [.ref 214, .int (nI s), .int 0, .int m, .int (nI f), w5, w6] [] σ1) (fun f hf ih => ?_) ?_
  · intro σ' f' a' hd w5 w6
    exact hout v0 σ' 0 w5 w6 f' a' hd (fun _ => ⟨rfl, fun f'' q => absurd q (Nat.not_lt_zero _)⟩) (fun q => absurd rfl q)
  · intro v σ1 m w5 w6 f1 a1 hd hm0 hm1
    refine k_241_63 ?_
    rw [show σ1 214 1 = nI F from (f1 214 1 (by decide)).trans h1, if_pos (nI_lt hf (by omega))]
    have hin := z_for (F := F) (P := fun o => ∀ v σ1 (m : Int32) w6, Fr p228 σ0 σ1 → FA F v σ1 → DW F (eR c r s) (fun _ _ => 1) s v → (m = 0 → v = v0 ∧ (∀ f', f' < f → ∀ o, o < F → eR c r s f' o = true → v f' < 1000000 → v o ≤ v f' + 1) ∧ (∀ o', o' < o → eR c r s f o' = true → v f < 1000000 → v o' ≤ v f + 1)) → (m ≠ 0 → sm v F < sm v0 F) → Z (d + 3) 241 Q 75 [.ref 214, .int (nI s), .int 0, .int m, .int (nI f), .int (nI o), w6] [] σ1) (fun o ho ih2 => ?_) ?_
    · exact hin v σ1 m w6 f1 a1 hd (fun q => ⟨(hm0 q).1, (hm0 q).2, fun o' q => absurd q (Nat.not_lt_zero _)⟩) hm1
    · intro v σ1 m w6 f1 a1 hd hm0 hm1
      have g1 : σ1 214 1 = nI F := (f1 214 1 (by decide)).trans h1
      have g215 : σ1 215 = r := (funext fun i => f1 215 i (by simp [p228])).trans h215
      have g217 : σ1 217 = c.2.2.1 := (funext fun i => f1 217 i (by simp [p228])).trans h217
      refine k_241_75 ?_
      rw [g1, if_pos (nI_lt ho (by omega)), g215, s_hasR _ (by omega), show nI o + (1 : Int32) = nI (o + 1) from nI_add o 1]
      have skip : (eR c r s f o = true → v f < 1000000 → v o ≤ v f + 1) → ∀ w6, Z (d + 3) 241 Q 75 [.ref 214, .int (nI s), .int 0, .int m, .int (nI f), .int (nI (o + 1)), w6] [] σ1 := fun hs w6 => by
        refine ih2 v σ1 m w6 f1 a1 hd (fun q => ⟨(hm0 q).1, (hm0 q).2.1, fun o' ho' hE hv => ?_⟩) hm1
        by_cases q2 : o' = o
        · rw [q2]; exact hs (by rw [← q2]; exact hE) hv
        · exact (hm0 q).2.2 o' (by omega) hE hv
      have eE : eR c r s f o = (!zb (r 45) o && zb (sg (nI c.1) c.2.2.1 o) f) := by unfold eR byV; rw [hp]; rfl
      cases hz : zb (r 45) o
      · rw [if_pos (show b2i false = 0 from rfl), r_sight (by omega), g1, g217, s_hasR _ (by omega), hF]
        rw [hz] at eE
        cases hsg : zb (sg (nI c.1) c.2.2.1 o) f
        · rw [hsg] at eE
          rw [if_pos (show b2i false = 0 from rfl)]
          exact skip (fun q => by rw [eE] at q; cases q) w6
        · rw [hsg] at eE
          have hE : eR c r s f o = true := eE
          rw [if_neg (show ¬ b2i true = 0 by decide)]
          have hvf := hd.2.1 f hf
          have hvo := hd.2.1 o ho
          simp only [show zin (nI f) 9 = true from zin_nI (by omega) (by decide), show zin (nI o) 9 = true from zin_nI (by omega) (by decide), ↓reduceIte]
          rw [zcl (by omega), zcl (by omega), a1 f hf, a1 o ho, show nI (v f) + (1 : Int32) = nI (v f + 1) from nI_add _ 1]
          by_cases hfin : v f < 1000000
          · rw [if_pos (show nI (v f) < 1000000 from nI_lt (b := 1000000) hfin (by decide))]
            by_cases hlt : v f + 1 < v o
            · rw [if_pos (nI_lt hlt (by omega))]
              obtain ⟨k1, k2⟩ := hd.up hf hE hfin hlt ho
              refine ih2 (upN v o (v f + 1)) _ 1 _ (Fr.tr f1 (Fr.up rfl)) (a1.up) k1 (fun q => absurd q (by decide)) (fun _ => ?_)
              by_cases q : m = 0
              · have := (hm0 q).1
                rw [this] at k2 ⊢
                exact k2
              · have := hm1 q
                exact Nat.lt_trans k2 this
            · rw [if_neg (nI_nlt (by omega) (by omega))]
              exact skip (fun _ _ => by omega) _
          · rw [if_neg (show ¬ nI (v f) < 1000000 from nI_nlt (b := 1000000) (by omega) (by omega))]
            exact skip (fun _ q => absurd q hfin) _
      · rw [hz] at eE
        rw [if_neg (show ¬ b2i true = 0 by decide)]
        exact skip (fun q => by rw [eE] at q; simp at q) w6
    · intro v σ1 m w6 f1 a1 hd hm0 hm1
      refine k_241_75 ?_
      rw [show σ1 214 1 = nI F from (f1 214 1 (by decide)).trans h1, if_neg (nI_nlt (Nat.le_refl _) (by omega)), show nI f + (1 : Int32) = nI (f + 1) from nI_add f 1]
      refine ih v σ1 m _ _ f1 a1 hd (fun q => ⟨(hm0 q).1, fun f' hf' o ho hE hv => ?_⟩) hm1
      by_cases q2 : f' = f
      · rw [q2] at hE hv ⊢; exact (hm0 q).2.2 o ho hE hv
      · exact (hm0 q).2.1 f' (by omega) o ho hE hv
  · intro v σ1 m w5 w6 f1 a1 hd hm0 hm1
    refine k_241_63 ?_
    rw [show σ1 214 1 = nI F from (f1 214 1 (by decide)).trans h1, if_neg (nI_nlt (Nat.le_refl _) (by omega))]
    by_cases q : m = 0
    · obtain ⟨q1, q2⟩ := hm0 q
      rw [q]
      refine k_241_54 ?_
      rw [if_pos rfl]
      rw [q1] at a1 q2
      exact hend0 σ1 f1 a1 (fun o ho f hf hE hv => q2 o ho f hf hE hv)
    · exact hendm v σ1 f1 a1 hd (hm1 q) m q _ _ _
