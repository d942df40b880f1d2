/-! AN HOUR: its ACTS done one behind the other -/
def Aw (C : Nat → Nat) (j : Nat) : Nat := (pAct C (psA C j)).2.2.1
def Af (C : Nat → Nat) (j : Nat) : Nat := (pAct C (psA C j)).2.2.2.1
def Am (C : Nat → Nat) (j : Nat) : Nat := (pAct C (psA C j)).2.2.2.2
def hRw (c : MC) (r : Nat → Int32) (C : Nat → Nat) : Nat → Nat → Int32
  | 0 => r
  | j + 1 => aRw c (hRw c r C j) (Aw C j) (Af C j) (Am C j)
theorem hRw_1 (c : MC) (r : Nat → Int32) (C : Nat → Nat) (j : Nat) : hRw c r C (j + 1) = aRw c (hRw c r C j) (Aw C j) (Af C j) (Am C j) := rfl
def hAl (c : MC) (r : Nat → Int32) (C : Nat → Nat) : Nat → Int32
  | 0 => 0
  | j + 1 => hAl c r C j + aAl c (hRw c r C j) (Aw C j) (Am C j)
theorem hAl_1 (c : MC) (r : Nat → Int32) (C : Nat → Nat) (j : Nat) : hAl c r C (j + 1) = hAl c r C j + aAl c (hRw c r C j) (Aw C j) (Am C j) := rfl
def hMi (C : Nat → Nat) : Nat → Nat
  | 0 => 0
  | j + 1 => hMi C j + aMi (Aw C j) (Am C j)
theorem hMi_1 (C : Nat → Nat) (j : Nat) : hMi C (j + 1) = hMi C j + aMi (Aw C j) (Am C j) := rfl
def hDo (c : MC) (r : Nat → Int32) (C : Nat → Nat) (k : Nat) : Prop := ∀ i, i < k → aOk c (hRw c r C i) (Aw C i) (Af C i) = true
def hGd (C : Nat → Nat) (n : Nat) : Prop := ∀ i, i < n → whs (Aw C i) ∧ Af C i < 9 ∧ Am C i ≤ 99 ∧ (Aw C i = 116 → Am C i ≤ 9)
theorem hDo.next {c : MC} {r : Nat → Int32} {C : Nat → Nat} {k : Nat} (h : hDo c r C k) (h1 : aOk c (hRw c r C k) (Aw C k) (Af C k) = true) : hDo c r C (k + 1) := fun i hi => by
  by_cases q : i = k
  · rw [q]; exact h1
  · exact h i (by omega)
theorem aOk_f {c : MC} {r : Nat → Int32} {w f : Nat} (h : aOk c r w f = true) (hw : w ≠ 109) : f < c.1 := by
  unfold aOk at h
  rw [if_neg hw] at h
  by_cases q : f < c.1
  · exact q
  · rw [decide_eq_false q, Bool.false_and] at h; cases h
theorem hMi_le {C : Nat → Nat} {n : Nat} (hg : hGd C n) : ∀ k, k ≤ n → hMi C k ≤ 99 * k := by
  intro k
  induction k with
  | zero => intro _; exact Nat.le_refl 0
  | succ k ih =>
    intro hk
    have h1 := ih (by omega)
    have h2 := (hg k (by omega)).2.2.1
    rw [hMi_1]
    unfold aMi
    split <;> omega
theorem hRw_WR {c : MC} {t n : Nat} {r : Nat → Int32} {C : Nat → Nat} (h9 : c.1 ≤ 9) (hw : WR c.1 t r) (hg : hGd C n) : ∀ k, k ≤ n → hDo c r C k → WR c.1 (t + hMi C k) (hRw c r C k) := by
  intro k
  induction k with
  | zero => intro _ _; exact hw
  | succ k ih =>
    intro hk hd
    have h1 := ih (by omega) (fun i hi => hd i (by omega))
    rw [hRw_1, hMi_1, ← Nat.add_assoc]
    exact aRw_WR h9 h1 (aOk_f (hd k (by omega))) (hg k (by omega)).2.2.2
def cTail (d : Nat) (Q : Int32 → zS → Prop) (k : Nat) (a : Int32) (σ : zS) : Prop := if 0 < nI k then (ZC d 36 [.ref 37] σ (fun _ s3 => (if nI k < (s3 10 3) then (ZC d 139 [.ref 0, .int 1, .int a] s3 (fun _ s5 => Q (nI k) s5)) else (ZC d 139 [.ref 0, .int 0, .int a] s3 (fun _ s7 => Q (nI k) s7))))) else (if nI k < (σ 10 3) then (ZC d 139 [.ref 0, .int 1, .int a] σ (fun _ s9 => Q (nI k) s9)) else (ZC d 139 [.ref 0, .int 0, .int a] σ (fun _ s11 => Q (nI k) s11)))
theorem c_hourLoop {d t n : Nat} {σ : zS} {c : MC} {l : List Int32} {r : Nat → Int32} {C : Nat → Nat} (hl : c.2.2.2.1 = rvl l) (hCW : CW 14 c σ) (hRL : RL l σ) (hcm : CM 17 c.1 r σ) (hcb : CB 32 r σ) (hw : WR c.1 t r) (hn : n ≤ 20) (hg : hGd C n) (h10 : σ 10 3 = nI n) (hac : ∀ j, j < n → ActC C (psA C j) j σ) (ht : t + 2000 < 100000000) {Q : Int32 → zS → Prop}
    (hq : ∀ k σ1, k ≤ n → hDo c r C k → (k < n → aOk c (hRw c r C k) (Aw C k) (Af C k) = false) → Fr pGo σ σ1 → CM 17 c.1 (hRw c r C k) σ1 → CB 32 (hRw c r C k) σ1 → cTail (d + 7) Q k (hAl c r C k) σ1) : ∀ w4, Z (d + 7) 96 Q 55 [.ref 0, .int 0, .int 0, .int 0, w4] [] σ := by
  have h9 : c.1 ≤ 9 := hCW.2.1
  have hloop := z_for (F := n) (P := fun k => ∀ σ1 w4, hDo c r C k → Fr pGo σ σ1 → CM 17 c.1 (hRw c r C k) σ1 → CB 32 (hRw c r C k) σ1 → Z (d + 7) 96 Q 55 [.ref 0, .int (nI k), .int (hAl c r C k), .int (nI k), w4] [] σ1) (fun k hk ih => ?_) ?_
  · exact fun w4 => hloop σ w4 (fun i hi => absurd hi (Nat.not_lt_zero i)) Fr.rf hcm hcb
  · intro σ1 w4 hd f1 g1 cb1
    obtain ⟨a1, a2, a3⟩ := hac k hk
    obtain ⟨q1, q2, q3, q4⟩ := hg k hk
    have hw1 := hRw_WR h9 hw hg k (by omega) hd
    have hml := hMi_le hg k (by omega)
    have o1 : ∀ o i, (o < 4 ∨ o = 5 ∨ (6 < o ∧ o < 14) ∨ o = 15 ∨ o = 16 ∨ (36 < o)) → σ1 o i = σ o i := fun o i q => f1 o i (by
      unfold pGo pw pBk
      rw [Bool.or_eq_false_iff, decide_eq_false_iff_not, decide_eq_false_iff_not]
      omega)
    have hCW1 : CW 14 c σ1 := by
      obtain ⟨k1, k2, k3, k4, k5, k6⟩ := hCW
      exact ⟨(f1 14 3 (by decide)).trans k1, k2, fun f q => ⟨(o1 15 f (by omega)).trans (k3 f q).1, (o1 16 f (by omega)).trans (k3 f q).2⟩, (o1 3 5 (by omega)).trans k4, k5, fun i q => (o1 7 i (by omega)).trans (k6 i q)⟩
    have hRL1 : RL l σ1 := by
      obtain ⟨g1, g2, g3, g4⟩ := hRL
      exact ⟨(o1 3 2 (by omega)).trans g1, fun i hi => (o1 5 i (by omega)).trans (g2 i hi), g3, g4⟩
    refine k_96_55 ?_
    rw [show σ1 10 3 = nI n from (o1 10 3 (by omega)).trans h10, if_pos (nI_lt hk (by omega)), if_pos (zin_nI (by omega) (by decide)), if_pos (zin_nI (by omega) (by decide)), if_pos (zin_nI (by omega) (by decide)), zcl (by omega), o1 11 k (by omega), o1 12 k (by omega), o1 13 k (by omega), a1, a2, a3]
    refine c_act hl hCW1 hRL1 g1 cb1 hw1 (w := Aw C k) (f := Af C k) (m := Am C k) q1 q2 q3 (by omega) (fun hok σ2 f2 g2 cb2 => ?_) (fun hno => ?_)
    · rw [if_neg (aAl_ne h9 q3), show nI k + (1 : Int32) = nI (k + 1) from nI_add k 1]
      exact ih σ2 _ (hd.next hok) (Fr.tr f1 f2) g2 cb2
    · rw [if_pos rfl]
      have := hq k σ1 (by omega) hd (fun _ => hno) f1 g1 cb1
      unfold cTail at this
      exact this
  · intro σ1 w4 hd f1 g1 cb1
    refine k_96_55 ?_
    have e10 : σ1 10 3 = nI n := (f1 10 3 (by decide)).trans h10
    have := hq n σ1 (Nat.le_refl n) hd (fun q => absurd q (Nat.lt_irrefl n)) f1 g1 cb1
    unfold cTail at this
    rw [e10] at this ⊢
    rw [if_neg (nI_nlt (Nat.le_refl _) (by omega))]
    exact this
def rTail (d : Nat) (Q : Int32 → zS → Prop) (n k : Nat) (σ : zS) : Prop := if 0 < nI k then (ZC d 209 [.ref 214, .ref 224] σ (fun _ s21 => (if nI k < nI n then (ZC d 174 [.ref 214, .int 1] (zup s21 214 11 0) (fun _ s23 => (ZC d 174 [.ref 214, .int (s23 214 33)] s23 (fun _ s25 => Q (nI k) s25)))) else (ZC d 174 [.ref 214, .int 0] (zup s21 214 11 0) (fun _ s27 => (ZC d 174 [.ref 214, .int (s27 214 33)] s27 (fun _ s29 => Q (nI k) s29))))))) else (if nI k < nI n then (ZC d 174 [.ref 214, .int 1] (zup σ 214 11 0) (fun _ s31 => (ZC d 174 [.ref 214, .int (s31 214 33)] s31 (fun _ s33 => Q (nI k) s33)))) else (ZC d 174 [.ref 214, .int 0] (zup σ 214 11 0) (fun _ s35 => (ZC d 174 [.ref 214, .int (s35 214 33)] s35 (fun _ s37 => Q (nI k) s37)))))
theorem r_hourLoop {e t n k : Nat} {σ : zS} {c : MC} {l : List Int32} {r : Nat → Int32} {C : Nat → Nat} (hPF : PF 215 c l t σ) (hr : σ 215 = r) (h7 : σ 214 7 = 0) (h33 : σ 214 33 = 0) (hn : n ≤ 20) (hg : hGd C n) (hac : ∀ j, j < n → ActR C (psA C j) j σ) (ht : t + 2000 < 100000000) (hk : k ≤ n) (hd : hDo c r C k) (hno : k < n → aOk c (hRw c r C k) (Aw C k) (Af C k) = false) {Q : Int32 → zS → Prop}
    (hq : ∀ σ1, Fr pAr σ σ1 → σ1 215 = hRw c r C k → σ1 214 33 = hAl c r C k → rTail (e + 227) Q n k σ1) : ∀ x2 : Int32, Z (e + 227) 219 Q 122 [.ref 214, .int (nI n), .int x2, .int 0] [] σ := by
  intro x2
  have aR : ∀ {σ1 : zS}, Fr pAr σ σ1 → ∀ j, j < n → ActR C (psA C j) j σ1 := fun f j hj => by
    obtain ⟨g1, g2, g3⟩ := hac j hj
    have e : ∀ i, _ = _ := fun i => f 225 i (by unfold pAr pR; simp)
    exact ⟨(e _).trans g1, (e _).trans g2, fun q => (e _).trans (g3 q)⟩
  have hloop := z_for (F := k) (P := fun j => ∀ σ1, Fr pAr σ σ1 → PF 215 c l (t + hMi C j) σ1 → σ1 215 = hRw c r C j → σ1 214 33 = hAl c r C j → Z (e + 227) 219 Q 122 [.ref 214, .int (nI n), .int x2, .int (nI j)] [] σ1) (fun j hj ih => ?_) ?_
  · exact hloop σ Fr.rf hPF hr h33
  · intro σ1 f1 p1 e1 s1
    obtain ⟨g1, g2, g3⟩ := aR f1 j (by omega)
    obtain ⟨q1, q2, q3, q4⟩ := hg j (by omega)
    have hml := hMi_le hg j (by omega)
    refine k_219_122 ?_
    rw [if_pos (nI_lt (by omega) (by omega)), show (3 : Int32) * nI j = nI (3 * j) from zm3 j]
    refine r_act p1 e1 ((f1 214 7 (by decide)).trans h7) (w := Aw C j) (f := Af C j) (m := Am C j) q1 q2 q3 q4 (by omega) (by omega) g1 g2 g3 (fun hok σ2 f2 p2 e2 s2 => ?_) (fun q => by have := hd j hj; rw [q] at this; cases this)
    rw [if_neg (by decide), show nI j + (1 : Int32) = nI (j + 1) from nI_add j 1]
    rw [Nat.add_assoc] at p2
    exact ih σ2 (Fr.tr f1 f2) p2 e2 (by rw [s2, s1, hAl_1])
  · intro σ1 f1 p1 e1 s1
    have hend := hq σ1 f1 e1 s1
    unfold rTail at hend
    refine k_219_122 ?_
    by_cases hkn : k < n
    · obtain ⟨g1, g2, g3⟩ := aR f1 k hkn
      obtain ⟨q1, q2, q3, q4⟩ := hg k hkn
      have hml := hMi_le hg k hk
      have hlt : nI k < nI n := nI_lt hkn (by omega)
      simp only [hlt, ↓reduceIte] at hend ⊢
      rw [show (3 : Int32) * nI k = nI (3 * k) from zm3 k]
      refine r_act p1 e1 ((f1 214 7 (by decide)).trans h7) (w := Aw C k) (f := Af C k) (m := Am C k) q1 q2 q3 q4 (by omega) (by omega) g1 g2 g3 (fun hok => by have := hno hkn; rw [hok] at this; cases this) (fun q => ?_)
      rw [if_pos rfl]
      exact hend
    · have hnn : ¬ (nI k < nI n) := nI_nlt (by omega) (by omega)
      rw [if_neg hnn]
      exact hend
