/-! new faces come to THE WALL: the reference lays them down -/
def pCp (F o i : Nat) : Bool := decide ((o = 214 ∧ i = 1) ∨ ((o = 216 ∨ o = 217) ∧ F ≤ i) ∨ (o = 215 ∧ F ≤ i % 9 ∧ i < 45))
def Nst (C : Nat → Nat) (F k : Nat) (σ : zS) : Prop := ∀ j, j < k → σ 215 (F + j) = nI (pLn C (psn C j)).2.2.1 ∧ σ 216 (F + j) = nI (pLn C (psn C j)).2.2.2.1 ∧ σ 217 (F + j) = (pLn C (psn C j)).2.2.2.2 ∧ σ 215 (9 + (F + j)) = 0 ∧ σ 215 (18 + (F + j)) = -1 ∧ σ 215 (27 + (F + j)) = -1 ∧ σ 215 (36 + (F + j)) = 0
theorem r_wallCopy {C : Nat → Nat} {F n d : Nat} {σ : zS} (h9 : F + n ≤ 9) (hc : Cst C n σ) (h1 : σ 214 1 = nI F) {Q : Int32 → zS → Prop}
    (hq : ∀ σ', Fr (pCp F) σ σ' → Nst C F n σ' → σ' 214 1 = nI (F + n) → Q (nI n) (zup (zup σ' 214 30 0) 214 47 ((σ' 214 47) + 1))) : ∀ x2 : Int32, Z (d + 1) 189 Q 125 [.ref 214, .int (nI n), .int x2, .int 0] [] σ := by
  intro x2
  have hloop := z_for (F := n) (P := fun j => ∀ σ1, Fr (pCp F) σ σ1 → Nst C F j σ1 → σ1 214 1 = nI (F + j) → Z (d + 1) 189 Q 125 [.ref 214, .int (nI n), .int x2, .int (nI j)] [] σ1) (fun j hj ih => ?_) ?_
  · exact hloop σ Fr.rf (fun j hj => absurd hj (Nat.not_lt_zero j)) h1
  · intro σ1 f1 n1 e1
    refine k_189_125 ?_
    obtain ⟨c0, c1, c2⟩ := hc j hj
    have z : ∀ i, i < 9 → zin (nI i) 9 = true := fun i hi => zin_nI hi (by decide)
    rw [if_pos (nI_lt hj (by omega)), show (3 : Int32) * nI j = nI (3 * j) from zm3 j, show nI (3 * j) + (1 : Int32) = nI (3 * j + 1) from nI_add _ 1, show nI (3 * j) + (2 : Int32) = nI (3 * j + 2) from nI_add _ 2, e1, show (9 : Int32) + nI (F + j) = nI (9 + (F + j)) from nI_add 9 _, if_pos (zin_nI (by omega) (by decide)), if_pos (zin_nI (by omega) (by decide)), if_pos (zin_nI (by omega) (by decide)), if_pos (zin_nI (by omega) (by decide)), if_pos (zin_nI (by omega) (by decide)), if_pos (zin_nI (by omega) (by decide)), if_pos (zin_nI (by omega) (by decide))]
    rw [zcl (by omega), zcl (by omega), zcl (by omega), zcl (by omega), zcl (by omega)]
    rw [f1 221 (3 * j) (by simp [pCp]), f1 221 (3 * j + 1) (by simp [pCp]), f1 221 (3 * j + 2) (by simp [pCp]), c0, c1, c2]
    refine k_190_0_i215 ?_
    rw [show (18 : Int32) + nI (F + j) = nI (18 + (F + j)) from nI_add 18 _, show (27 : Int32) + nI (F + j) = nI (27 + (F + j)) from nI_add 27 _, show (36 : Int32) + nI (F + j) = nI (36 + (F + j)) from nI_add 36 _, if_pos (zin_nI (by omega) (by decide)), if_pos (zin_nI (by omega) (by decide)), if_pos (zin_nI (by omega) (by decide)), zcl (by omega), zcl (by omega), zcl (by omega), show nI j + (1 : Int32) = nI (j + 1) from nI_add j 1]
    have u : ∀ {σ : zS} {o i : Nat} {v : Int32}, pCp F o i = true → Fr (pCp F) σ (zup σ o i v) := fun h => Fr.up h
    have p5 : ∀ i, F ≤ i % 9 → i < 45 → pCp F 215 i = true := fun i q1 q2 => decide_eq_true (Or.inr (Or.inr ⟨rfl, q1, q2⟩))
    refine ih _ (Fr.tr f1 (Fr.tr (u (p5 (F + j) (by omega) (by omega))) (Fr.tr (u (o := 216) (i := F + j) (decide_eq_true (by omega))) (Fr.tr (u (o := 217) (i := F + j) (decide_eq_true (by omega))) (Fr.tr (u (p5 (9 + (F + j)) (by omega) (by omega))) (Fr.tr (u (p5 (18 + (F + j)) (by omega) (by omega))) (Fr.tr (u (p5 (27 + (F + j)) (by omega) (by omega))) (Fr.tr (u (p5 (36 + (F + j)) (by omega) (by omega))) (u (o := 214) (i := 1) (decide_eq_true (by omega))))))))))) (fun i hi => ?_) ?_
    · simp only [zup_eq, zput_app, Nat.reduceEqDiff, ↓reduceIte]
      by_cases q : i = j
      · subst q
        refine ⟨?_, ?_, ?_, ?_, ?_, ?_, ?_⟩
        · rw [upd_ne (by omega), upd_ne (by omega), upd_ne (by omega), upd_ne (by omega), upd_eq]
        · rw [upd_eq]
        · rw [upd_eq]
        · rw [upd_ne (by omega), upd_ne (by omega), upd_ne (by omega), upd_eq]
        · rw [upd_ne (by omega), upd_ne (by omega), upd_eq]
        · rw [upd_ne (by omega), upd_eq]
        · rw [upd_eq]
      · have hn := n1 i (by omega)
        simp (disch := omega) only [upd_ne]
        exact hn
    · simp only [zup_eq, zput_app, Nat.reduceEqDiff, ↓reduceIte, upd_eq, e1]
      exact nI_add (F + j) 1
  · intro σ1 f1 n1 e1
    refine k_189_125 ?_
    rw [if_neg (nI_nlt (Nat.le_refl _) (by omega))]
    exact hq σ1 f1 n1 e1
theorem r_wallYes {C : Nat → Nat} {T F k d : Nat} {σ : zS} (hx : TXr C T σ) (hT : 0 < T) (h76 : T ≤ 76) (h9 : F ≤ 9) (h1 : σ 214 1 = nI F) (ho : OutOk (cutC C (min T 76)) (min T 76) F k) {Q : Int32 → zS → Prop}
    (hq : ∀ σ2 σ', Fr pWq σ σ2 → σ2 214 9 = 0 → Fr (pCp F) σ2 σ' → Nst (cutC C (min T 76)) F (k + 1) σ' → σ' 214 1 = nI (F + (k + 1)) → Q (nI (k + 1)) (zup (zup σ' 214 30 0) 214 47 ((σ' 214 47) + 1))) : ZC (d + 5) 189 [.ref 214] σ Q := by
  have h80 := hx.1
  have hC : ∀ i, min T 76 ≤ i → cutC C (min T 76) i = 999 := cutC_ge C _
  refine r_wallBegin hx (fun q => absurd q (by omega)) (fun _ σ1 f1 z1 t1 r1 => ?_)
  have e1 : σ1 214 1 = nI F := (f1 214 1 (by decide)).trans h1
  obtain ⟨hg, q1, q2, q3⟩ := ho
  have hle := psn_le (L := min T 76) hC k hg
  refine r_wallTo h9 hg t1 r1 e1 (fun σ2 w f2 r2 t2 c2 => ?_) _
  have f12 : Fr pWq σ σ2 := Fr.tr f1 (fr_pW2 f2)
  have z2 : σ2 214 9 = 0 := (f2 214 9 (by decide)).trans z1
  have e2 : σ2 214 1 = nI F := (f2 214 1 (by decide)).trans e1
  refine k_189_37 ?_
  rw [if_neg (by decide), r_fine1 r2, if_neg (by decide), e2, nI_add, show nI k + (1 : Int32) = nI (k + 1) from nI_add k 1, if_neg (show ¬ nI (F + k) = 9 from fun q => by have := (nI_eq (a := F + k) (b := 9) (by omega) (by decide)).mp q; omega), show (3 : Int32) * nI k = nI (3 * k) from zm3 k]
  refine r_readFace (C := C) (T := T) (m := 76) (by omega) t2 r2 hle (fun _ σ3 f3 k0 k1 k2 r3 => ?_) (fun q => by rw [q2] at q; cases q)
  have h999 : cutC C (min T 76) (pLn (cutC C (min T 76)) (psn (cutC C (min T 76)) k)).2.1 = 999 := by rw [q3]; exact hC _ (Nat.le_refl _)
  rcases r3 with r3 | ⟨-, q6, -⟩
  · rw [q3] at r3
    have t3 := t2.p21 f3
    refine r_passesF t3.to r3 (Nat.le_refl _) (c := 59) (by decide) (fun q => by rw [hC _ (Nat.le_refl _)] at q; cases q) (fun _ => ?_)
    refine k_189_37 ?_
    rw [if_pos rfl, r3.1, t3.2.2.2.1, if_neg (nI_nlt (by omega) (by omega)), r_fine1 r3, if_neg (by decide)]
    refine r_wallCopy (C := cutC C (min T 76)) (F := F) (by omega) ((c2.p21 f3).next k0 k1 k2) ((f3 214 1 (by simp [p21])).trans e2) (fun σ4 f4 n4 e4 => ?_) _
    exact hq σ3 σ4 (Fr.tr f12 (fr_pW2 (fr_p21 f3))) ((f3 214 9 (by simp [p21])).trans z2) f4 n4 e4
  · omega
