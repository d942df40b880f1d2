/-! several minutes -/
def mR (c : MC) (r : Nat → Int32) : Nat → Nat → Int32
  | 0 => r
  | k + 1 => ms c false (mR c r k)
theorem mR_1 (c : MC) (r : Nat → Int32) (k : Nat) : mR c r (k + 1) = ms c false (mR c r k) := rfl
def faS (c : MC) (j : Int32) (r : Nat → Int32) : Int32 := msS c false r &&& so (nI c.1) c.2.2.1 j c.1
def mA (c : MC) (r : Nat → Int32) : Nat → Int32
  | 0 => 0
  | k + 1 => mA c r k + bc (ysS c false (mR c r k))
theorem mA_1 (c : MC) (r : Nat → Int32) (k : Nat) : mA c r (k + 1) = mA c r k + bc (ysS c false (mR c r k)) := rfl
def mFa (c : MC) (j : Int32) (r : Nat → Int32) : Nat → Int32
  | 0 => 0
  | k + 1 => mFa c j r k + bc (faS c j (mR c r k))
theorem mFa_1 (c : MC) (j : Int32) (r : Nat → Int32) (k : Nat) : mFa c j r (k + 1) = mFa c j r k + bc (faS c j (mR c r k)) := rfl
def mSt (c : MC) (j : Int32) (r : Nat → Int32) : Nat → Int32
  | 0 => -1
  | k + 1 => if mSt c j r k = -1 then (if bc (faS c j (mR c r k)) < bc (ysS c false (mR c r k)) then nI k else mSt c j r k) else mSt c j r k
theorem mSt_1 (c : MC) (j : Int32) (r : Nat → Int32) (k : Nat) : mSt c j r (k + 1) = if mSt c j r k = -1 then (if bc (faS c j (mR c r k)) < bc (ysS c false (mR c r k)) then nI k else mSt c j r k) else mSt c j r k := rfl
theorem mR_WR {c : MC} {t : Nat} {r : Nat → Int32} (h9 : c.1 ≤ 9) (hw : WR c.1 t r) : ∀ k, WR c.1 (t + k) (mR c r k) := by
  intro k
  induction k with
  | zero => exact hw
  | succ k ih => exact ms_WR h9 ih
theorem cn_diff {p q : Nat → Bool} : ∀ n, (∀ k, k < n → p k = true → q k = true) → cn q n = cn p n + cn (fun k => q k && !p k) n := by
  intro n
  induction n with
  | zero => intro _; rfl
  | succ n ih =>
    intro h
    rw [cn_1, cn_1, cn_1, ih (fun k hk => h k (by omega))]
    have h1 := h n (by omega)
    cases hp : p n
    · cases hq : q n <;> simp
      omega
    · rw [h1 hp]; simp; omega
theorem bc_zero : ∀ n, n < 512 → (bc (nI n) = 0 ↔ nI n = 0) := by decide +kernel
theorem bc_sub {x y : Int32} (hy : ∀ f, 9 ≤ f → f < 32 → zb y f = false) (hx : ∀ f, f < 32 → zb x f = true → zb y f = true) : bc x < bc y ↔ ¬ (y &&& (x ^^^ (-1)) = 0) := by
  have hx9 : ∀ f, 9 ≤ f → f < 32 → zb x f = false := fun f h1 h2 => by
    cases h : zb x f
    · rfl
    · exact absurd (hx f h2 h) (by rw [hy f h1 h2]; decide)
  have hd9 : ∀ f, 9 ≤ f → f < 32 → zb (y &&& (x ^^^ (-1))) f = false := fun f h1 h2 => by rw [zb_and, hy f h1 h2]; rfl
  obtain ⟨a, ha, ea⟩ := i_small hx9
  obtain ⟨b, hb, eb⟩ := i_small hy
  obtain ⟨e, he, ee⟩ := i_small hd9
  have k1 := cn_diff (p := zb x) (q := zb y) 9 (fun k hk => hx k (by omega))
  have k2 : cn (fun k => zb y k && !zb x k) 9 = cn (zb (y &&& (x ^^^ (-1)))) 9 := cn_cong 9 (fun k hk => by
    show (zb y k && !zb x k) = _
    rw [zb_and, zb_not (by omega)])
  rw [k2] at k1
  have k3 := bc_zero e he
  rw [← ee] at k3
  have b1 := bc512 a ha
  have b2 := bc512 b hb
  have b3 := bc512 e he
  rw [← ea] at b1
  rw [← eb] at b2
  rw [← ee] at b3
  have l1 := cn_le (zb x) 9
  have l2 := cn_le (zb y) 9
  have l3 := cn_le (zb (y &&& (x ^^^ (-1)))) 9
  rw [← k3, b1, b2, b3]
  constructor
  · intro h h2
    have h4 : cn (zb (y &&& (x ^^^ (-1)))) 9 = 0 := (nI_eq (a := cn (zb (y &&& (x ^^^ (-1)))) 9) (b := 0) (by omega) (by omega)).mp h2
    exact absurd h (nI_nlt (by omega) (by omega))
  · intro h
    refine nI_lt ?_ (by omega)
    by_cases h4 : cn (zb (y &&& (x ^^^ (-1)))) 9 = 0
    · exact absurd (by rw [h4]; rfl) h
    · omega
theorem fa_sub {c : MC} {j : Int32} {r : Nat → Int32} (h9 : c.1 ≤ 9) : bc (faS c j r) < bc (ysS c false r) ↔ ¬ (ysS c false r &&& (faS c j r ^^^ (-1)) = 0) := by
  refine bc_sub (fun f h1 h2 => ?_) (fun f hf h => ?_)
  · unfold ysS
    exact bs_out h9 (by omega) h2
  · unfold faS at h
    rw [zb_and] at h
    have h1 : zb (msS c false r) f = true := by cases h2 : zb (msS c false r) f with | true => rfl | false => rw [h2] at h; simp at h
    rw [← ys_ms h9, zb_and] at h1
    cases h2 : zb (ysS c false r) f with
    | true => rfl
    | false => rw [h2] at h1; simp at h1
theorem c_minutes {d n t : Nat} {σ : zS} {c : MC} {l : List Int32} {r : Nat → Int32} {j : Int32} (hl : c.2.2.2.1 = rvl l) (hCW : CW 14 c σ) (hRL : RL l σ) (hcm : CM 17 c.1 r σ) (hcb : CB 32 r σ) (hw : WR c.1 t r) (hj : σ 0 13 = j) (hn : n ≤ 300) (ht : t + n < 100000000) {Q : Int32 → zS → Prop}
    (hq : ∀ σ', Fr pGo σ σ' → CM 17 c.1 (mR c r n) σ' → CB 32 (mR c r n) σ' → ZC (d + 6) 139 [.ref 0, .int (mFa c j r n), .int (mSt c j r n)] σ' (fun _ s => Q (mA c r n) s)) : ∀ w6 w7, Z (d + 6) 95 Q 31 [.ref 0, .int (nI n), .int 0, .int 0, .int (-1), .int 0, w6, w7] [] σ := by
  have h9 : c.1 ≤ 9 := hCW.2.1
  have hloop := z_for (F := n) (P := fun k => ∀ w6 w7 σ1, Fr pGo σ σ1 → CM 17 c.1 (mR c r k) σ1 → CB 32 (mR c r k) σ1 → Z (d + 6) 95 Q 31 [.ref 0, .int (nI n), .int (mA c r k), .int (mFa c j r k), .int (mSt c j r k), .int (nI k), w6, w7] [] σ1) (fun k hk ih => ?_) ?_
  · exact fun w6 w7 => hloop w6 w7 σ Fr.rf hcm hcb
  · intro w6 w7 σ1 f1 g1 cb1
    obtain ⟨w1, w2, w3, y, w4, w5⟩ := mR_WR h9 hw k
    have o1 : ∀ o i, (o < 4 ∨ o = 5 ∨ (6 < o ∧ o < 14) ∨ o = 15 ∨ o = 16 ∨ (36 < o)) → σ1 o i = σ o i := fun o i q => f1 o i (by
      unfold pGo pw pBk
      rw [Bool.or_eq_false_iff, decide_eq_false_iff_not, decide_eq_false_iff_not]
      omega)
    have e143 : σ1 14 3 = nI c.1 := (f1 14 3 (by decide)).trans hCW.1
    have hCW1 : CW 14 c σ1 := by
      obtain ⟨k1, k2, k3, k4, k5, k6⟩ := hCW
      exact ⟨e143, k2, fun f q => ⟨(o1 15 f (by omega)).trans (k3 f q).1, (o1 16 f (by omega)).trans (k3 f q).2⟩, (o1 3 5 (by omega)).trans k4, k5, fun i q => (o1 7 i (by omega)).trans (k6 i q)⟩
    have hRL1 : RL l σ1 := by
      obtain ⟨g1, g2, g3, g4⟩ := hRL
      exact ⟨(o1 3 2 (by omega)).trans g1, fun i hi => (o1 5 i (by omega)).trans (g2 i hi), g3, g4⟩
    refine k_95_31 ?_
    rw [if_pos (nI_lt hk (by omega))]
    refine c_goBy hCW1 (by rw [hl]; exact c_holds hRL1 _) (by rw [hl]; exact rvl_RVC l) g1 w2 w1 (by omega) w3 cb1 w5 (by omega) (fun σ2 f2 g2 cb2 y2 m2 b2 => ?_)
    have o2 : ∀ o i, (o < 4 ∨ o = 5 ∨ (6 < o ∧ o < 14) ∨ o = 15 ∨ o = 16 ∨ (36 < o)) → σ2 o i = σ1 o i := fun o i q => f2 o i (by
      unfold pGo pw pBk
      rw [Bool.or_eq_false_iff, decide_eq_false_iff_not, decide_eq_false_iff_not]
      omega)
    refine k_147_0 ?_
    rw [c_sightOf14 (F := c.1) ((f2 14 3 (by decide)).trans e143) h9, m2, (o2 0 13 (by omega)).trans ((o1 0 13 (by omega)).trans hj)]
    have eso : so (nI c.1) (σ2 16) j c.1 = so (nI c.1) c.2.2.1 j c.1 := so_cong c.1 (fun f hf => (o2 16 f (by omega)).trans (hCW1.2.2.1 f hf).2)
    rw [eso, show msS c false (mR c r k) &&& so (nI c.1) c.2.2.1 j c.1 = faS c j (mR c r k) from rfl, s_bitCount, show nI k + (1 : Int32) = nI (k + 1) from nI_add k 1]
    have ih2 := ih (.int (bc (ysS c false (mR c r k)))) (.int (bc (faS c j (mR c r k)))) σ2 (Fr.tr f1 f2) g2 cb2
    by_cases h1 : mSt c j r k = -1
    · by_cases h2 : bc (faS c j (mR c r k)) < bc (ysS c false (mR c r k))
      · rw [if_pos h1, if_pos h2]
        have e : mSt c j r (k + 1) = nI k := by rw [mSt_1, if_pos h1, if_pos h2]
        rw [e] at ih2
        exact ih2
      · rw [if_pos h1, if_neg h2]
        have e : mSt c j r (k + 1) = mSt c j r k := by rw [mSt_1, if_pos h1, if_neg h2]
        rw [e] at ih2
        exact ih2
    · rw [if_neg h1]
      have e : mSt c j r (k + 1) = mSt c j r k := by rw [mSt_1, if_neg h1]
      rw [e] at ih2
      exact ih2
  · intro w6 w7 σ1 f1 g1 cb1
    refine k_95_31 ?_
    rw [if_neg (nI_nlt (Nat.le_refl _) (by omega))]
    exact hq σ1 f1 g1 cb1
theorem r_minutes {d n t : Nat} {σ : zS} {c : MC} {l : List Int32} {r : Nat → Int32} {j : Int32} (hPF : PF 215 c l t σ) (hr : σ 215 = r) (h7 : σ 214 7 = 0) (hj : σ 214 4 = j) (h9 : c.1 ≤ 9) (hn : n ≤ 300) (ht : t + n < 100000000) {Q : Int32 → zS → Prop}
    (hq : ∀ σ', Fr (pR 215) σ σ' → σ' 215 = mR c r n → ZC (d + 226) 174 [.ref 214, .int (mFa c j r n)] (zup σ' 214 11 0) (fun _ s11 => ZC (d + 226) 174 [.ref 214, .int (mSt c j r n)] s11 (fun _ s => Q (mA c r n) s))) : Z (d + 226) 218 Q 40 [.ref 214, .int (nI n), .int 0, .int 0, .int (-1), .int 0] [] σ := by
  have hloop := z_for (F := n) (P := fun k => ∀ σ1, Fr (pR 215) σ σ1 → PF 215 c l (t + k) σ1 → σ1 215 = mR c r k → Z (d + 226) 218 Q 40 [.ref 214, .int (nI n), .int (mA c r k), .int (mFa c j r k), .int (mSt c j r k), .int (nI k)] [] σ1) (fun k hk ih => ?_) ?_
  · exact hloop σ Fr.rf hPF hr
  · intro σ1 f1 p1 e1
    refine k_218_40 ?_
    rw [if_pos (nI_lt hk (by omega))]
    refine r_passT215 (fr := false) p1 ((f1 214 7 (by decide)).trans h7) (by omega) (fun σ5 f5 p5 e5 y5 b5 m5 => ?_)
    rw [e1] at e5 y5 m5
    have p5' := p5
    obtain ⟨-, -, -, -, -, ⟨n1, -, n3, -⟩, -⟩ := p5'
    have e4 : σ5 214 4 = j := (f5 214 4 (by decide)).trans ((f1 214 4 (by decide)).trans hj)
    have ih2 := ih σ5 (Fr.tr f1 f5) p5 e5
    have e28 : (σ5 214 26 &&& σ5 214 28) &&& so (nI c.1) (σ5 217) (σ5 214 4) c.1 = faS c j (mR c r k) := by
      rw [y5, m5, ys_ms h9, n3, e4]; rfl
    rw [s_bitCount, r_falseOnes (F := c.1) n1 h9, e28, s_bitCount, y5, show nI k + (1 : Int32) = nI (k + 1) from nI_add k 1]
    by_cases h1 : mSt c j r k = -1
    · rw [if_pos h1, r_falseOnes (F := c.1) n1 h9, e28]
      by_cases h2 : bc (faS c j (mR c r k)) < bc (ysS c false (mR c r k))
      · rw [if_neg ((fa_sub h9).mp h2)]
        have e : mSt c j r (k + 1) = nI k := by rw [mSt_1, if_pos h1, if_pos h2]
        rw [e] at ih2
        exact ih2
      · rw [if_pos (Decidable.not_not.mp (fun q => h2 ((fa_sub h9).mpr q)))]
        have e : mSt c j r (k + 1) = mSt c j r k := by rw [mSt_1, if_pos h1, if_neg h2]
        rw [e] at ih2
        exact ih2
    · rw [if_neg h1]
      have e : mSt c j r (k + 1) = mSt c j r k := by rw [mSt_1, if_neg h1]
      rw [e] at ih2
      exact ih2
  · intro σ1 f1 p1 e1
    refine k_218_40 ?_
    rw [if_neg (nI_nlt (Nat.le_refl _) (by omega))]
    exact hq σ1 f1 e1
