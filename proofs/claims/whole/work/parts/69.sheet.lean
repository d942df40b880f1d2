/-! all faces set -/
theorem clp_n (x : Int32) : ∃ n, n ≤ 9 ∧ mx0 (mn9 x) = nI n := by
  unfold mx0 mn9
  by_cases h : x < 9
  · rw [if_pos h]
    by_cases h0 : 0 < x
    · rw [if_pos h0]
      have h1 : ¬ x < 0 := fun q => Int32.lt_irrefl (Int32.lt_trans q h0)
      obtain ⟨n, hn, rfl⟩ := nI_of h1
      exact ⟨n, by have := (nI_ltI (a := n) (b := 9) hn (by decide)).mp h; omega, rfl⟩
    · rw [if_neg h0]; exact ⟨0, by decide, rfl⟩
  · rw [if_neg h, if_pos (by decide)]; exact ⟨9, by decide, rfl⟩
def nar (m : Nat) (x : Int32) : Int32 := if m = 0 then zi2b x else if m = 1 then zi2s x else x
def xs (x y : Int32) : Nat → Int32
  | 0 => x
  | k + 1 => xs x y k + y
theorem xs_1 (x y : Int32) (k : Nat) : xs x y (k + 1) = xs x y k + y := rfl
def tv (m : Nat) (n x y : Int32) (k : Nat) : Int32 := if m = 3 then 0 else if nI k < n then mx0 (mn9 (nar m (xs x y k))) else 0
theorem tv_n (m : Nat) (n x y : Int32) (k : Nat) : ∃ j, j ≤ 9 ∧ tv m n x y k = nI j := by
  unfold tv
  split
  · exact ⟨0, by decide, rfl⟩
  · split
    · exact clp_n _
    · exact ⟨0, by decide, rfl⟩
def rk (r v : Nat → Int32) : Nat → Nat → Int32
  | 0 => r
  | k + 1 => upd (rk r v k) k (v k)
theorem rk_1 (r v : Nat → Int32) (k : Nat) : rk r v (k + 1) = upd (rk r v k) k (v k) := rfl
theorem rk_hi {r v : Nat → Int32} : ∀ k i, k ≤ i → rk r v k i = r i := by
  intro k
  induction k with
  | zero => intro _ _; rfl
  | succ k ih => intro i hi; rw [rk_1, upd_ne (by omega)]; exact ih i (by omega)
theorem rk_lo {r v : Nat → Int32} : ∀ k i, i < k → rk r v k i = v i := by
  intro k
  induction k with
  | zero => intro i hi; exact absurd hi (Nat.not_lt_zero i)
  | succ k ih =>
    intro i hi
    rw [rk_1]
    by_cases h : i = k
    · subst h; rw [upd_eq]
    · rw [upd_ne h]; exact ih i (by omega)
theorem smT_cong {r r' : Nat → Int32} : ∀ n, (∀ k, k < n → r k = r' k) → smT r n = smT r' n := by
  intro n
  induction n with
  | zero => intro _; rfl
  | succ n ih => intro h; rw [smT_1, smT_1, ih (fun k hk => h k (by omega)), h n (by omega)]
theorem WR.rk {F t : Nat} {r v : Nat → Int32} (h9 : F ≤ 9) (hv : ∀ k, ∃ j, j ≤ 9 ∧ v k = nI j) (h : WR F t r) : ∀ k, k ≤ F → WR F t (rk r v k) := by
  intro k
  induction k with
  | zero => intro _; exact h
  | succ k ih =>
    intro hk
    obtain ⟨j, hj, e⟩ := hv k
    rw [rk_1, e]
    exact WR.tired h9 (by omega) hj (ih (by omega))
theorem c_asTired {d m : Nat} {σ : zS} (hm : m < 3) (x : Int32) (Q : Int32 → zS → Prop) : ZC (d + 2) 145 [.int (nI m), .int x] σ Q = Q (mx0 (mn9 (nar m x))) σ := by
  refine s_of (fun Q h => k_145_0 ?_) Q
  have hm3 : m = 0 ∨ m = 1 ∨ m = 2 := by omega
  rcases hm3 with rfl | rfl | rfl
  · rw [if_pos (show nI 0 = (0 : Int32) from rfl), s_mn, s_mx]; exact h
  · rw [if_neg (by decide), if_pos (show nI 1 = (1 : Int32) from rfl), s_mn, s_mx]; exact h
  · rw [if_neg (by decide), if_neg (by decide), s_mn, s_mx]; exact h
def p18 (o _i : Nat) : Bool := decide (o = 18)
def p215 (o _i : Nat) : Bool := decide (o = 215)
theorem c_sheetLoop {d m : Nat} {σ : zS} {c : MC} {l : List Int32} {t : Nat} (hc : Ctx c l t σ) (hm : m ≤ 3) (n x y : Int32) {Q : Int32 → zS → Prop} (hq : ∀ σ1, Fr p18 σ σ1 → CM 17 c.1 (rk (σ 215) (tv m n x y) c.1) σ1 → Q (if m = 3 then -3 else smT (tv m n x y) c.1) σ1) : Z (d + 2) 89 Q 47 [.ref 0, .int (nI m), .int n, .int x, .int y, .int (if m = 3 then 1 else 0), .int x, .int 0] [] σ := by
  have h9 := hc.h9
  have hloop := z_for (F := c.1) (P := fun k => ∀ σ1, Fr p18 σ σ1 → CM 17 c.1 (rk (σ 215) (tv m n x y) k) σ1 → Z (d + 2) 89 Q 47 [.ref 0, .int (nI m), .int n, .int x, .int y, .int (if m = 3 then 1 else 0), .int (xs x y k), .int (nI k)] [] σ1) (fun k hk ih σ1 f1 g1 => ?_) (fun σ1 f1 g1 => ?_)
  · exact hloop σ Fr.rf hc.hcm
  · refine k_89_47 ?_
    have ih2 := ih (zup σ1 18 k (tv m n x y k)) (Fr.tr f1 (Fr.up (by simp [p18]))) (by
      obtain ⟨j, hj, e⟩ := tv_n m n x y k
      rw [rk_1, e]
      exact CM.tired hk h9 g1)
    rw [xs_1] at ih2
    rw [(f1 14 3 (by decide)).trans hc.h14, if_pos (nI_lt hk (by omega)), show nI k + (1 : Int32) = nI (k + 1) from nI_add k 1, zcl (by omega)]
    by_cases h3 : m = 3
    · rw [show tv m n x y k = 0 from if_pos h3] at ih2
      rw [if_pos h3] at ih2 ⊢
      rw [if_neg (by decide), if_pos (zin_nI (by omega) (by decide))]
      exact ih2
    · have e : tv m n x y k = if nI k < n then mx0 (mn9 (nar m (xs x y k))) else 0 := if_neg h3
      rw [if_neg h3] at ih2 ⊢
      rw [if_pos rfl]
      by_cases hlt : nI k < n
      · rw [e, if_pos hlt] at ih2
        rw [if_pos hlt, c_asTired (by omega), if_pos (zin_nI (by omega) (by decide))]
        exact ih2
      · rw [e, if_neg hlt] at ih2
        rw [if_neg hlt, if_pos (zin_nI (by omega) (by decide))]
        exact ih2
  · refine k_89_47 ?_
    have hq2 := hq σ1 f1 g1
    rw [(f1 14 3 (by decide)).trans hc.h14, if_neg (nI_nlt (Nat.le_refl _) (by omega))]
    by_cases h3 : m = 3
    · rw [if_pos h3] at hq2 ⊢
      rw [if_neg (by decide)]
      exact hq2
    · rw [if_neg h3] at hq2 ⊢
      rw [if_pos rfl, c_sumOfTired (F := c.1) (r := tv m n x y) ((f1 14 3 (by decide)).trans hc.h14) h9 (fun f hf => ((g1.1 f hf).1).trans (rk_lo _ _ hf))]
      exact hq2
theorem r_sheetLoop {d m F : Nat} {σ : zS} (hR : σ 214 1 = nI F) (h9 : F ≤ 9) (hm : m ≤ 3) (n x y : Int32) {w : Value} {Q : Int32 → zS → Prop} (hq : ∀ σ1, Fr p215 σ σ1 → σ1 215 = rk (σ 215) (tv m n x y) F → Q (if m = 3 then -3 else smT (tv m n x y) F) σ1) : Z (d + 2) 202 Q 43 [.ref 214, .int (nI m), .int n, .int x, .int y, .int 0, .int x, .int 0, w] [] σ := by
  have hloop := z_for (F := F) (P := fun k => ∀ w σ1, Fr p215 σ σ1 → σ1 215 = rk (σ 215) (tv m n x y) k → Z (d + 2) 202 Q 43 [.ref 214, .int (nI m), .int n, .int x, .int y, .int (smT (tv m n x y) k), .int (xs x y k), .int (nI k), w] [] σ1) (fun k hk ih w σ1 f1 g1 => ?_) (fun w σ1 f1 g1 => ?_)
  · exact hloop w σ Fr.rf rfl
  · refine k_202_43 ?_
    have ih2 := fun w => ih w (zup σ1 215 k (tv m n x y k)) (Fr.tr f1 (Fr.up (by simp [p215]))) (by
      rw [zup_eq, zput_app, if_pos rfl, rk_1, g1])
    rw [xs_1, smT_1] at ih2
    have e0 : ∀ v : Int32, (zup σ1 215 k v) 215 k = v := fun v => by rw [zup_eq, zput_app, if_pos rfl, upd_eq]
    rw [(f1 214 1 (by decide)).trans hR, if_pos (nI_lt hk (by omega)), show nI k + (1 : Int32) = nI (k + 1) from nI_add k 1, zcl (by omega)]
    have hz : zin (nI k) 288 = true := zin_nI (by omega) (by decide)
    have e : tv m n x y k = if m = 3 then 0 else if nI k < n then mx0 (mn9 (nar m (xs x y k))) else 0 := rfl
    have hm4 : m = 0 ∨ m = 1 ∨ m = 2 ∨ m = 3 := by omega
    rcases hm4 with rfl | rfl | rfl | rfl
    · rw [if_neg (by decide)] at e
      rw [if_pos (show nI 0 = (0 : Int32) from rfl), if_neg (by decide)]
      by_cases hlt : nI k < n
      · rw [if_pos hlt] at e
        rw [e] at ih2
        rw [if_pos hlt, s_mn, s_mx, if_pos hz, if_pos hz, e0]
        exact ih2 _
      · rw [if_neg hlt] at e
        rw [e] at ih2
        rw [if_neg hlt, if_pos hz, if_pos hz, e0]
        exact ih2 _
    · rw [if_neg (by decide)] at e
      rw [if_neg (by decide), if_pos (show nI 1 = (1 : Int32) from rfl), if_neg (by decide)]
      by_cases hlt : nI k < n
      · rw [if_pos hlt] at e
        rw [e] at ih2
        rw [if_pos hlt, s_mn, s_mx, if_pos hz, if_pos hz, e0]
        exact ih2 _
      · rw [if_neg hlt] at e
        rw [e] at ih2
        rw [if_neg hlt, if_pos hz, if_pos hz, e0]
        exact ih2 _
    · rw [if_neg (by decide)] at e
      rw [if_neg (by decide), if_neg (by decide), if_neg (by decide)]
      by_cases hlt : nI k < n
      · rw [if_pos hlt] at e
        rw [e] at ih2
        rw [if_pos hlt, s_mn, s_mx, if_pos hz, if_pos hz, e0]
        exact ih2 _
      · rw [if_neg hlt] at e
        rw [e] at ih2
        rw [if_neg hlt, if_pos hz, if_pos hz, e0]
        exact ih2 _
    · rw [if_pos rfl] at e
      rw [e] at ih2
      rw [if_neg (by decide), if_neg (by decide), if_pos (show nI 3 = (3 : Int32) from rfl), if_pos hz, if_pos hz, e0]
      exact ih2 _
  · refine k_202_43 ?_
    have hq2 := hq σ1 f1 g1
    rw [(f1 214 1 (by decide)).trans hR, if_neg (nI_nlt (Nat.le_refl _) (by omega))]
    by_cases h3 : m = 3
    · subst h3
      rw [if_pos rfl] at hq2
      rw [if_pos (show nI 3 = (3 : Int32) from rfl)]
      exact hq2
    · rw [if_neg h3] at hq2
      rw [if_neg (show ¬ nI m = (3 : Int32) from fun q => h3 ((nI_eq (a := m) (b := 3) (by omega) (by decide)).mp q))]
      exact hq2
theorem call_sheet {d e b : Nat} {σ : zS} (a n x y : Int32) (h : Inv b σ) : Both (d + 3) 89 [.ref 0, .int a, .int n, .int x, .int y] (e + 3) 202 [.ref 214, .int a, .int n, .int x, .int y] b σ := by
  obtain ⟨c, l, t, ht, hc⟩ := h.ctx
  have h9 := hc.h9
  rcases rng0 a 3 (n := 3) (by decide) rfl with ha | ⟨m, hm, rfl, y1, y2⟩
  · refine both_q h (-1) none (fun Q hq => ?_) (fun σ3 f3 Q hq => ?_)
    · refine k_89_0 ?_
      rw [s_isIn0 ha, if_pos rfl]
      exact hq σ Fr.rf
    · refine k_202_0 ?_
      rw [s_in0 ha, if_pos rfl]
      exact hq _ fr12
  by_cases h9n : 9 < n
  · refine both_q h (-1) none (fun Q hq => ?_) (fun σ3 f3 Q hq => ?_)
    · refine k_89_0 ?_
      rw [s_isIn, if_neg y1, if_neg y2, if_neg (by decide), if_pos h9n]
      exact hq σ Fr.rf
    · refine k_202_0 ?_
      rw [s_in, if_neg y1, if_neg y2, if_neg (by decide), if_pos h9n]
      exact hq _ fr12
  have i3 : nI m < (3 : Int32) ↔ m < 3 := nI_ltI (a := m) (b := 3) (by omega) (by decide)
  have e3 : nI m = (3 : Int32) ↔ m = 3 := nI_eq (a := m) (b := 3) (by omega) (by decide)
  by_cases hneg : m < 3 ∧ n < 0
  · refine both_q h (-2) none (fun Q hq => ?_) (fun σ3 f3 Q hq => ?_)
    · refine k_89_0 ?_
      rw [s_isIn, if_neg y1, if_neg y2, if_neg (by decide), if_neg h9n, if_neg (by rw [e3]; omega), if_pos hneg.2]
      exact hq σ Fr.rf
    · refine k_202_0 ?_
      rw [s_in, if_neg y1, if_neg y2, if_neg (by decide), if_neg h9n, if_pos (i3.mpr hneg.1), if_pos hneg.2]
      exact hq _ fr12
  -- the rows
  have fin : ∀ σ1, Fr p18 σ σ1 → CM 17 c.1 (rk (σ 215) (tv m n x y) c.1) σ1 → ZC (e + 3) 202 [.ref 214, .int (nI m), .int n, .int x, .int y] σ1 (fun v2 σ2 => (if m = 3 then -3 else smT (tv m n x y) c.1) = v2 ∧ Inv b σ2) := by
    intro σ1 f1 g1
    have tail : ∀ w, Z (e + 2) 202 (fun v2 σ2 => (if m = 3 then -3 else smT (tv m n x y) c.1) = v2 ∧ Inv b σ2) 43 [.ref 214, .int (nI m), .int n, .int x, .int y, .int 0, .int x, .int 0, w] [] (zup σ1 214 12 0) := by
      intro w
      refine r_sheetLoop (show (zup σ1 214 12 0) 214 1 = nI c.1 from (f1 214 1 (by decide)).trans hc.hR) h9 hm n x y (fun σ2 f2 g2 => ⟨rfl, ?_⟩)
      have e215 : (zup σ1 214 12 0) 215 = σ 215 := funext fun i => f1 215 i (by simp [p18])
      rw [e215] at g2
      refine Inv.walled h (Fr.tr (Fr.mono f1 (fun o i q => ?_)) (Fr.tr (Fr.up (by decide)) (Fr.mono f2 (fun o i q => ?_)))) (fun F hw hr => ?_)
      · cases hp : p18 o i
        · rfl
        · rw [show o = 18 from of_decide_eq_true hp, dWs_o (by omega)] at q; cases q
      · cases hp : p215 o i
        · rfl
        · rw [show o = 215 from of_decide_eq_true hp, dWs_o (by omega)] at q; cases q
      have hFF : F = c.1 := by
        have := hw.2.1.symm.trans hc.h14
        have h2 := hw.1
        exact (nI_eq (by omega) (by omega)).mp this
      subst hFF
      obtain ⟨r1, r2, t', r3, r4⟩ := hr
      have ag : ∀ o i, o ≠ 18 → o ≠ 214 → o ≠ 215 → σ2 o i = σ o i := fun o i q1 q2 q3 => by
        refine (f2 o i (decide_eq_false q3)).trans ?_
        rw [zup_eq, zput_app, if_neg q2]
        exact f1 o i (decide_eq_false q1)
      have ag2 : ∀ o i, o ≠ 214 → o ≠ 215 → σ2 o i = σ1 o i := fun o i q2 q3 => by
        refine (f2 o i (decide_eq_false q3)).trans ?_
        rw [zup_eq, zput_app, if_neg q2]
      have hR2 : σ2 214 1 = σ 214 1 := (f2 214 1 (by decide)).trans (f1 214 1 (by decide))
      obtain ⟨w1, w2, w3, w4, w5⟩ := hw
      refine ⟨⟨w1, (ag 14 3 (by decide) (by decide) (by decide)).trans w2, hR2.trans w3, fun f hf => ?_, fun f hf => by rw [ag 216 f (by decide) (by decide) (by decide)]; exact w5 f hf⟩, ?_⟩
      · rw [ag 15 f (by decide) (by decide) (by decide), ag 16 f (by decide) (by decide) (by decide), ag 216 f (by decide) (by decide) (by decide), ag 217 f (by decide) (by decide) (by decide)]
        exact w4 f hf
      · unfold pRow
        rw [g2]
        refine ⟨CM.ag g1 (fun o i q1 q2 => ag2 o i (by omega) (by omega)), CB.ag r2 (fun i q1 q2 => rk_hi _ _ (by omega)) (fun o i q1 q2 => ag o i (by omega) (by omega) (by omega)), t', r3, WR.rk h9 (tv_n m n x y) r4 c.1 (Nat.le_refl _)⟩
    refine k_202_0 ?_
    rw [s_in, if_neg y1, if_neg y2, if_neg (by decide), if_neg h9n]
    by_cases h3 : m < 3
    · rw [if_pos (i3.mpr h3), if_neg (fun q => hneg ⟨h3, q⟩)]
      exact tail _
    · rw [if_neg (fun q => h3 (i3.mp q))]
      exact tail _
  refine k_89_0 ?_
  rw [s_isIn, if_neg y1, if_neg y2, if_neg (by decide), if_neg h9n]
  have hl := c_sheetLoop (d := d) hc hm n x y (Q := fun v1 σ1 => ZC (e + 3) 202 [.ref 214, .int (nI m), .int n, .int x, .int y] σ1 (fun v2 σ2 => v1 = v2 ∧ Inv b σ2)) fin
  by_cases h3 : m = 3
  · rw [if_pos h3] at hl
    rw [if_pos (e3.mpr h3)]
    exact hl
  · rw [if_neg h3] at hl
    rw [if_neg (fun q => h3 (e3.mp q)), if_neg (fun q => hneg ⟨by omega, q⟩)]
    exact hl
