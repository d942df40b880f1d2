/-! an ACT is done -/
def aOk (c : MC) (r : Nat → Int32) (w f : Nat) : Bool := if w = 109 then true else decide (f < c.1) && (decide (w = 97 ∨ w = 116) || cyw r f)
def aRw (c : MC) (r : Nat → Int32) (w f m : Nat) : Nat → Int32 := if w = 109 then mR c r m else if w = 97 then gcl (upd r 45 (r 45 ^^^ zshl 1 (nI f))) f else if w = 116 then upd r f (nI m) else bg r f (if w = 102 then 1 else 0)
def aAl (c : MC) (r : Nat → Int32) (w m : Nat) : Int32 := if w = 109 then mA c r m else 0
def aMi (w m : Nat) : Nat := if w = 109 then m else 0
theorem aRw_WR {c : MC} {t w f m : Nat} {r : Nat → Int32} (h9 : c.1 ≤ 9) (hw : WR c.1 t r) (hf : w ≠ 109 → f < c.1) (hm : w = 116 → m ≤ 9) : WR c.1 (t + aMi w m) (aRw c r w f m) := by
  unfold aMi aRw
  by_cases h : w = 109
  · rw [if_pos h, if_pos h]; exact mR_WR h9 hw m
  · rw [if_neg h, if_neg h]
    by_cases h2 : w = 97
    · rw [if_pos h2]; exact gcl_WR h9 (hf h) (awy_WR h9 hw)
    · rw [if_neg h2]
      by_cases h3 : w = 116
      · rw [if_pos h3]; exact WR.tired h9 (hf h) (hm h3) hw
      · rw [if_neg h3]
        exact bg_WR h9 (hf h) (by split; exact Or.inr rfl; exact Or.inl rfl) hw
theorem bc9 {c : MC} {r : Nat → Int32} (h9 : c.1 ≤ 9) : ∃ n, n ≤ 9 ∧ bc (ysS c false r) = nI n := by
  obtain ⟨n, hn, e⟩ := i_small (x := ysS c false r) (fun f h1 h2 => by unfold ysS; exact bs_out h9 (by omega) h2)
  refine ⟨cn (zb (nI n)) 9, cn_le _ 9, ?_⟩
  rw [e, bc512 n hn]
theorem mA_nat {c : MC} {r : Nat → Int32} (h9 : c.1 ≤ 9) : ∀ k, ∃ n, n ≤ 9 * k ∧ mA c r k = nI n := by
  intro k
  induction k with
  | zero => exact ⟨0, Nat.le_refl _, rfl⟩
  | succ k ih =>
    obtain ⟨n, h1, h2⟩ := ih
    obtain ⟨n2, h3, h4⟩ := bc9 (r := mR c r k) h9
    exact ⟨n + n2, by omega, by rw [mA_1, h2, h4, nI_add]⟩
theorem aAl_ne {c : MC} {r : Nat → Int32} {w m : Nat} (h9 : c.1 ≤ 9) (hm : m ≤ 99) : ¬ (aAl c r w m = -1) := by
  unfold aAl
  by_cases h : w = 109
  · rw [if_pos h]
    obtain ⟨n, h1, h2⟩ := mA_nat (r := r) h9 m
    rw [h2]
    exact nI_m1 (by omega)
  · rw [if_neg h]; decide
theorem pGo_o {o i : Nat} (h : 17 ≤ o ∧ o ≤ 21) : pGo o i = true := by
  unfold pGo pw
  rw [Bool.or_eq_true]
  exact Or.inl (decide_eq_true (by omega))
theorem c_act {d t : Nat} {σ : zS} {c : MC} {l : List Int32} {r : Nat → Int32} (hl : c.2.2.2.1 = rvl l) (hCW : CW 14 c σ) (hRL : RL l σ) (hcm : CM 17 c.1 r σ) (hcb : CB 32 r σ) (hw : WR c.1 t r) {w f m : Nat} (hwh : whs w) (hf9 : f < 9) (hm : m ≤ 99) (ht : t + m < 100000000) {Q : Int32 → zS → Prop}
    (h1 : aOk c r w f = true → ∀ σ', Fr pGo σ σ' → CM 17 c.1 (aRw c r w f m) σ' → CB 32 (aRw c r w f m) σ' → Q (aAl c r w m) σ')
    (h0 : aOk c r w f = false → Q (-1) σ) : ZC (d + 7) 149 [.ref 0, .int (nI w), .int (wf w f), .int (nI m)] σ Q := by
  have h9 : c.1 ≤ 9 := hCW.2.1
  refine k_149_0 ?_
  by_cases hw109 : w = 109
  · subst hw109
    rw [if_pos (show nI 109 = 109 from rfl)]
    have h1' := h1 rfl
    unfold aRw aAl at h1'
    rw [if_pos rfl, if_pos rfl] at h1'
    have hloop := z_for (F := m) (P := fun k => ∀ σ1, Fr pGo σ σ1 → CM 17 c.1 (mR c r k) σ1 → CB 32 (mR c r k) σ1 → Z (d + 6) 149 Q 12 [.ref 0, .int (nI 109), .int (wf 109 f), .int (nI m), .int (mA c r k), .int (nI k)] [] σ1) (fun k hk ih => ?_) ?_
    · exact hloop σ Fr.rf hcm hcb
    · intro σ1 f1 g1 cb1
      obtain ⟨w1, w2, w3, y, w4, w5⟩ := mR_WR h9 hw k
      have o1 : ∀ o i, (o < 4 ∨ o = 5 ∨ (6 < o ∧ o < 14) ∨ o = 15 ∨ o = 16 ∨ (36 < o)) → σ1 o i = σ o i := fun o i q => f1 o i (by
        unfold pGo pw pBk
        rw [Bool.or_eq_false_iff, decide_eq_false_iff_not, decide_eq_false_iff_not]
        omega)
      have hCW1 : CW 14 c σ1 := by
        obtain ⟨k1, k2, k3, k4, k5, k6⟩ := hCW
        exact ⟨(f1 14 3 (by decide)).trans k1, k2, fun f q => ⟨(o1 15 f (by omega)).trans (k3 f q).1, (o1 16 f (by omega)).trans (k3 f q).2⟩, (o1 3 5 (by omega)).trans k4, k5, fun i q => (o1 7 i (by omega)).trans (k6 i q)⟩
      have hRL1 : RL l σ1 := by
        obtain ⟨g1, g2, g3, g4⟩ := hRL
        exact ⟨(o1 3 2 (by omega)).trans g1, fun i hi => (o1 5 i (by omega)).trans (g2 i hi), g3, g4⟩
      refine k_149_12 ?_
      rw [if_pos (nI_lt hk (by omega))]
      refine c_goBy hCW1 (by rw [hl]; exact c_holds hRL1 _) (by rw [hl]; exact rvl_RVC l) g1 w2 w1 (by omega) w3 cb1 w5 (by omega) (fun σ2 f2 g2 cb2 y2 m2 b2 => ?_)
      rw [show nI k + (1 : Int32) = nI (k + 1) from nI_add k 1]
      exact ih σ2 (Fr.tr f1 f2) g2 cb2
    · intro σ1 f1 g1 cb1
      refine k_149_12 ?_
      rw [if_neg (nI_nlt (Nat.le_refl _) (by omega))]
      exact h1' σ1 f1 g1 cb1
  have nw : ∀ k, k < 1000 → w ≠ k → ¬ (nI w = nI k) := fun k hk hne q => hne ((nI_eq (by unfold whs at hwh; omega) (by omega)).mp q)
  rw [if_neg (show ¬ (nI w = 109) from nw 109 (by decide) hw109), show wf w f = nI f from if_neg hw109]
  unfold aOk at h1 h0
  rw [if_neg hw109] at h1 h0
  by_cases hf : f < c.1
  · rw [c_isFace1 hCW.1 h9 hf, if_neg (by decide)]
    rw [decide_eq_true hf, Bool.true_and] at h1 h0
    by_cases h97 : w = 97
    · subst h97
      rw [if_pos (show nI 97 = 97 from rfl)]
      have h1' := h1 rfl
      rw [show aRw c r 97 f m = gcl (upd r 45 (r 45 ^^^ zshl 1 (nI f))) f from rfl, show aAl c r 97 m = 0 from rfl] at h1'
      refine k_31_0_i17 ?_
      rw [s_bit, show σ 17 5 = r 45 from hcm.2.2.2.1]
      refine c_drop14 (CM.away (r 45 ^^^ zshl 1 (nI f)) h9 hcm) h9 hf (fun σ3 f3 g3 => ?_)
      have ff : Fr pGo σ σ3 := Fr.tr (Fr.up (pGo_o (by omega))) (Fr.mono f3 (fun o i q => by
        cases hb : pm 17 o i
        · rfl
        · rw [pGo_o (of_decide_eq_true hb)] at q; cases q))
      refine h1' σ3 ff g3 (CB.ag hcb (fun i q1 q2 => ?_) (fun o i q1 q2 => ?_))
      · unfold gcl
        rw [upd_ne (by omega), upd_ne (by omega), upd_ne (by omega), upd_ne (by omega)]
      · refine (f3 o i (decide_eq_false (by omega))).trans ?_
        rw [zup_eq, zput_app, if_neg (by omega)]
    rw [if_neg (show ¬ (nI w = 97) from nw 97 (by decide) h97)]
    by_cases h116 : w = 116
    · subst h116
      have h1' := h1 rfl
      rw [show aRw c r 116 f m = upd r f (nI m) from rfl, show aAl c r 116 m = 0 from rfl] at h1'
      rw [if_pos (show nI 116 = 116 from rfl), if_pos (zin_nI (by omega) (by decide)), zcl (by omega)]
      refine h1' _ (Fr.up (pGo_o (by omega))) (CM.tired hf h9 hcm) (CB.ag hcb (fun i q1 q2 => upd_ne (by omega)) (fun o i q1 q2 => ?_))
      rw [zup_eq, zput_app, if_neg (by omega)]
    rw [if_neg (show ¬ (nI w = 116) from nw 116 (by decide) h116), c_canYawn hCW.1 h9 hcm hf]
    rw [decide_eq_false (show ¬ (w = 97 ∨ w = 116) by omega), Bool.false_or] at h1 h0
    cases hcy : cyw r f
    · rw [if_pos (show b2i false = 0 from rfl)]
      exact h0 hcy
    · rw [if_neg (show ¬ b2i true = 0 by decide)]
      have h1' := h1 hcy
      unfold aRw aAl at h1'
      rw [if_neg hw109, if_neg hw109, if_neg h97, if_neg h116] at h1'
      have fin : ∀ x : Int32, (x = 0 ∨ x = 1) → x = (if w = 102 then 1 else 0) → ZC (d + 6) 27 [.ref 17, .int (nI f), .int (σ 17 6), .int (-1), .int x] σ (fun _ s => Q 0 s) := fun x hx ex => by
        rw [show σ 17 6 = r 46 from hcm.2.2.2.2]
        refine c_plan14 hcm h9 hf _ _ hx (fun σ3 f3 g3 => ?_)
        rw [← ex] at h1'
        refine h1' σ3 (Fr.mono f3 (fun o i q => by
          cases hb : pm 17 o i
          · rfl
          · rw [pGo_o (of_decide_eq_true hb)] at q; cases q)) g3 (CB.ag hcb (fun i q1 q2 => ?_) (fun o i q1 q2 => f3 o i (decide_eq_false (by omega))))
        unfold bg
        rw [upd_ne (by omega), upd_ne (by omega), upd_ne (by omega)]
      by_cases h102 : w = 102
      · rw [if_pos (show nI w = 102 by rw [h102]; rfl)]
        exact fin 1 (Or.inr rfl) (if_pos h102).symm
      · rw [if_neg (show ¬ (nI w = 102) from nw 102 (by decide) h102)]
        exact fin 0 (Or.inl rfl) (if_neg h102).symm
  · rw [decide_eq_false hf, Bool.false_and] at h0
    rw [c_isFace0 hCW.1 (Or.inr (by rw [Int32.le_iff_toInt_le, nI_toInt (by omega), nI_toInt (by omega)]; omega)), if_pos rfl]
    exact h0 rfl
