/-! all faces set -/
theorem clp_n (x : Int32) : ∃ n, n ≤ 9 ∧ mx0 (mn9 x) = nI n := by
  unfold mx0 mn9
  by_cases h : x < 9
  · rw [if_pos h]
    by_cases h0 : 0 < x
    · rw [if_pos h0]
      have h1 : ¬ x < 0 := fun q => Int32.lt_irrefl (Int32.lt_trans q h0)
      obtain ⟨n, hn, rfl⟩ := nI_of h1
      exact ⟨n, by have := (nI_ltI (a := n) (b := 9) hn (by decide)).mp h; omega, rfl⟩
    · rw [if_neg h0]; exact ⟨0, by decide, rfl⟩
  · rw [if_neg h, if_pos (by decide)]; exact ⟨9, by decide, rfl⟩
def nar (m : Nat) (x : Int32) : Int32 := if m = 0 then zi2b x else if m = 1 then zi2s x else x
def xs (x y : Int32) : Nat → Int32
  | 0 => x
  | k + 1 => xs x y k + y
theorem xs_1 (x y : Int32) (k : Nat) : xs x y (k + 1) = xs x y k + y := rfl
def tv (m : Nat) (n x y : Int32) (k : Nat) : Int32 := if m = 3 then 0 else if nI k < n then mx0 (mn9 (nar m (xs x y k))) else 0
theorem tv_n (m : Nat) (n x y : Int32) (k : Nat) : ∃ j, j ≤ 9 ∧ tv m n x y k = nI j := by
  unfold tv
  split
  · exact ⟨0, by decide, rfl⟩
  · split
    · exact clp_n _
    · exact ⟨0, by decide, rfl⟩
def rk (r v : Nat → Int32) : Nat → Nat → Int32
  | 0 => r
  | k + 1 => upd (rk r v k) k (v k)
theorem rk_1 (r v : Nat → Int32) (k : Nat) : rk r v (k + 1) = upd (rk r v k) k (v k) := rfl
theorem rk_hi {r v : Nat → Int32} : ∀ k i, k ≤ i → rk r v k i = r i := by
  intro k
  induction k with
  | zero => intro _ _; rfl
  | succ k ih => intro i hi; rw [rk_1, upd_ne (by omega)]; exact ih i (by omega)
theorem rk_lo {r v : Nat → Int32} : ∀ k i, i < k → rk r v k i = v i := by
  intro k
  induction k with
  | zero => intro i hi; exact absurd hi (Nat.not_lt_zero i)
  | succ k ih =>
    intro i hi
    rw [rk_1]
    by_cases h : i = k
    · subst h; rw [upd_eq]
    · rw [upd_ne h]; exact ih i (by omega)
theorem smT_cong {r r' : Nat → Int32} : ∀ n, (∀ k, k < n → r k = r' k) → smT r n = smT r' n := by
  intro n
  induction n with
  | zero => intro _; rfl
  | succ n ih => intro h; rw [smT_1, smT_1, ih (fun k hk => h k (by omega)), h n (by omega)]
theorem WR.rk {F t : Nat} {r v : Nat → Int32} (h9 : F ≤ 9) (hv : ∀ k, ∃ j, j ≤ 9 ∧ v k = nI j) (h : WR F t r) : ∀ k, k ≤ F → WR F t (rk r v k) := by
  intro k
  induction k with
  | zero => intro _; exact h
  | succ k ih =>
    intro hk
    obtain ⟨j, hj, e⟩ := hv k
    rw [rk_1, e]
    exact WR.tired h9 (by omega) hj (ih (by omega))
theorem c_asTired {d m : Nat} {σ : zS} (hm : m < 3) (x : Int32) (Q : Int32 → zS → Prop) : ZC (d + 2) 145 [.int (nI m), .int x] σ Q = Q (mx0 (mn9 (nar m x))) σ := by
  refine s_of (fun Q h => k_145_0 ?_) Q
  have hm3 : m = 0 ∨ m = 1 ∨ m = 2 := by omega
  rcases hm3 with rfl | rfl | rfl
  · rw [if_pos (show nI 0 = (0 : Int32) from rfl), s_mn, s_mx]; exact h
  · rw [if_neg (by decide), if_pos (show nI 1 = (1 : Int32) from rfl), s_mn, s_mx]; exact h
  · rw [if_neg (by decide), if_neg (by decide), s_mn, s_mx]; exact h
def p18 (o _i : Nat) : Bool := decide (o = 18)
def p215 (o _i : Nat) : Bool := decide (o = 215)
theorem c_sheetLoop {d m : Nat} {σ : zS} {c : MC} {l : List Int32} {t : Nat} (hc : Ctx c l t σ) (hm : m ≤ 3) (n x y : Int32) {Q : Int32 → zS → Prop} (hq : ∀ σ1, Fr p18 σ σ1 → CM 17 c.1 (rk (σ 215) (tv m n x y) c.1) σ1 → Q (if m = 3 then -3 else smT (tv m n x y) c.1) σ1) : Z (d + 2) 89 Q 47 [.ref 0, .int (nI m), .int n, .int x, .int y, .int (if m = 3 then 1 else 0), .int x, .int 0] [] σ := by
  have h9 := hc.h9
  have hloop := z_for (F := c.1) (P := fun k => ∀ σ1, Fr p18 σ σ1 → CM 17 c.1 (rk (σ 215) (tv m n x y) k) σ1 → Z (d + 2) 89 Q 47 [.ref 0, .int (nI m), .int n, .int x, .int y, .int (if m = 3 then 1 else 0), .int (xs x y k), .int (nI k)] [] σ1) (fun k hk ih σ1 f1 g1 => ?_) (fun σ1 f1 g1 => ?_)
  · exact hloop σ Fr.rf hc.hcm
  · refine k_89_47 ?_
    have ih2 := ih (zup σ1 18 k (tv m n x y k)) (Fr.tr f1 (Fr.up (by simp [p18]))) (by
      obtain ⟨j, hj, e⟩ := tv_n m n x y k
      rw [rk_1, e]
      exact CM.tired hk h9 g1)
    rw [xs_1] at ih2
    rw [(f1 14 3 (by decide)).trans hc.h14, if_pos (nI_lt hk (by omega)), show nI k + (1 : Int32) = nI (k + 1) from nI_add k 1, zcl (by omega)]
    by_cases h3 : m = 3
    · rw [show tv m n x y k = 0 from if_pos h3] at ih2
      rw [if_pos h3] at ih2 ⊢
      rw [if_neg (by decide), if_pos (zin_nI (by omega) (by decide))]
      exact ih2
    · have e : tv m n x y k = if nI k < n then mx0 (mn9 (nar m (xs x y k))) else 0 := if_neg h3
      rw [if_neg h3] at ih2 ⊢
      rw [if_pos rfl]
      by_cases hlt : nI k < n
      · rw [e, if_pos hlt] at ih2
        rw [if_pos hlt, c_asTired (by omega), if_pos (zin_nI (by omega) (by decide))]
        exact ih2
      · rw [e, if_neg hlt] at ih2
        rw [if_neg hlt, if_pos (zin_nI (by omega) (by decide))]
        exact ih2
  · refine k_89_47 ?_
    have hq2 := hq σ1 f1 g1
    rw [(f1 14 3 (by decide)).trans hc.h14, if_neg (nI_nlt (Nat.le_refl _) (by omega))]
    by_cases h3 : m = 3
    · rw [if_pos h3] at hq2 ⊢
      rw [if_neg (by decide)]
      exact hq2
    · rw [if_neg h3] at hq2 ⊢
      rw [if_pos rfl, c_sumOfTired (F := c.1) (r := tv m n x y) ((f1 14 3 (by decide)).trans hc.h14) h9 (fun f hf => ((g1.1 f hf).1).trans (rk_lo _ _ hf))]
      exact hq2
theorem r_sheetLoop {d m F : Nat} {σ : zS} (hR : σ 214 1 = nI F) (h9 : F ≤ 9) (hm : m ≤ 3) (n x y : Int32) {w : Value} {Q : Int32 → zS → Prop} (hq : ∀ σ1, Fr p215 σ σ1 → σ1 215 = rk (σ 215) (tv m n x y) F → Q (if m = 3 then -3 else smT (tv m n x y) F) σ1) : Z (d + 2) 202 Q 43 [.ref 214, .int (nI m), .int n, .int x, .int y, .int 0, .int x, .int 0, w] [] σ := by
  have hloop := z_for (F := F) (P := fun k => ∀ w σ1, Fr p215 σ σ1 → σ1 215 = rk (σ 215) (tv m n x y) k → Z (d + 2) 202 Q 43 [.ref 214, .int (nI m), .int n, .int x, .int y, .int (smT (tv m n x y) k), .int (xs x y k), .int (nI k), w] [] σ1) (fun k hk ih w σ1 f1 g1 => ?_) (fun w σ1 f1 g1 => ?_)
  · exact hloop w σ Fr.rf rfl
  · refine k_202_43 ?_
    have ih2 := fun w => ih w (zup σ1 215 k (tv m n x y k)) (Fr.tr f1 (Fr.up (by simp [p215]))) (by
      rw [zup_eq, zput_app, if_pos rfl, rk_1, g1])
    rw [xs_1, smT_1] at ih2
    have e0 : ∀ v : Int32, (zup σ1 215 k v) 215 k = v := fun v => by rw [zup_eq, zput_app, if_pos rfl, upd_eq]
    rw [(f1 214 1 (by decide)).trans hR, if_pos (nI_lt hk (by omega)), show nI k + (1 : Int32) = nI (k + 1) from nI_add k 1, zcl (by omega)]
    have hz : zin (nI k) 288 = true := zin_nI (by omega) (by decide)
    have e : tv m n x y k = if m = 3 then 0 else if nI k < n then mx0 (mn9 (nar m (xs x y k))) else 0 := rfl
    have hm4 : m = 0 ∨ m = 1 ∨ m = 2 ∨ m = 3 := by omega
    rcases hm4 with rfl | rfl | rfl | rfl
    · rw [if_neg (by decide)] at e
      rw [if_pos (show nI 0 = (0 : Int32) from rfl), if_neg (by decide)]
      by_cases hlt : nI k < n
      · rw [if_pos hlt] at e
        rw [e] at ih2
        rw [if_pos hlt, s_mn, s_mx, if_pos hz, if_pos hz, e0]
        exact ih2 _
      · rw [if_neg hlt] at e
        rw [e] at ih2
        rw [if_neg hlt, if_pos hz, if_pos hz, e0]
        exact ih2 _
    · rw [if_neg (by decide)] at e
      rw [if_neg (by decide), if_pos (show nI 1 = (1 : Int32) from rfl), if_neg (by decide)]
      by_cases hlt : nI k < n
      · rw [if_pos hlt] at e
        rw [e] at ih2
        rw [if_pos hlt, s_mn, s_mx, if_pos hz, if_pos hz, e0]
        exact ih2 _
      · rw [if_neg hlt] at e
        rw [e] at ih2
        rw [if_neg hlt, if_pos hz, if_pos hz, e0]
        exact ih2 _
    · rw [if_neg (by decide)] at e
      rw [if_neg (by decide), if_neg (by decide), if_neg (by decide)]
      by_cases hlt : nI k < n
      · rw [if_pos hlt] at e
        rw [e] at ih2
        rw [if_pos hlt, s_mn, s_mx, if_pos hz, if_pos hz, e0]
        exact ih2 _
      · rw [if_neg hlt] at e
        rw [e] at ih2
        rw [if_neg hlt, if_pos hz, if_pos hz, e0]
        exact ih2 _
    · rw [if_pos rfl] at e
      rw [e] at ih2
      rw [if_neg (by decide), if_neg (by decide), if_pos (show nI 3 = (3 : Int32) from rfl), if_pos hz, if_pos hz, e0]
      exact ih2 _
  · refine k_202_43 ?_
    have hq2 := hq σ1 f1 g1
    rw [(f1 214 1 (by decide)).trans hR, if_neg (nI_nlt (Nat.le_refl _) (by omega))]
    by_cases h3 : m = 3
    · subst h3
      rw [if_pos rfl] at hq2
      rw [if_pos (show nI 3 = (3 : Int32) from rfl)]
      exact hq2
    · rw [if_neg h3] at hq2
      rw [if_neg (show ¬ nI m = (3 : Int32) from fun q => h3 ((nI_eq (a := m) (b := 3) (by omega) (by decide)).mp q))]
      exact hq2
