/-! a line written into the book -/
theorem fm_x : ∀ a, a < 120 → ¬ (nI a ^^^ 60) < 0 := by decide +kernel
theorem s_floorMod60 {d a : Nat} (ha : a < 120) (σ : zS) (Q : Int32 → zS → Prop) : ZC (d + 1) 1 [.int (nI a), .int 60] σ Q = Q (nI (a % 60)) σ := by
  refine s_of (fun Q h => k_1_0 ?_) Q
  rw [if_neg (show ¬ (60 : Int32) = 0 by decide), if_neg (fm_x a ha), show zrem (nI a) 60 = nI (a % 60) from zrem_nI (b := 60) (by omega) (by decide) (by decide)]
  exact h
theorem c_place {d j k : Nat} {σ : zS} (h5 : σ 32 5 = nI j) (hjk : j + k < 120) (Q : Int32 → zS → Prop) : ZC (d + 2) 14 [.ref 32, .int (nI k)] σ Q = Q (nI ((j + k) % 60)) σ := by
  refine s_of (fun Q h => k_14_0 ?_) Q
  rw [h5, nI_add, s_floorMod60 hjk]
  exact h
def pBk (o _i : Nat) : Bool := decide (32 ≤ o ∧ o ≤ 36)
theorem c_write {d y f : Nat} {q : Nat → Int32} {m : Int32} {σ : zS} {Q : Int32 → zS → Prop} (h : CB 32 q σ) (hy : q 47 = nI y) (hyb : y + 1 < 1073741824) (hq : ∀ σ', Fr pBk σ σ' → CB 32 (bkw m q f) σ' → Q 0 σ') : ZC (d + 3) 15 [.ref 32, .int m, .int (nI f), .int (q (27 + f)), .int (q (36 + f))] σ Q := by
  obtain ⟨y', y0, y1, h4, h5, hl⟩ := h
  have hyy : y' = y := (nI_eq (by omega) (by omega)).mp (y1.symm.trans hy)
  subst hyy
  refine k_15_0 ?_
  have e0 : ((if y' < 60 then 0 else y' % 60) + (if y' < 60 then y' else 60)) % 60 = y' % 60 := by split <;> omega
  rw [h4, c_place h5 (by split <;> omega), e0]
  have hv : y' % 60 < 60 := Nat.mod_lt _ (by decide)
  rw [if_pos (zin_nI hv (by decide)), if_pos (zin_nI hv (by decide)), if_pos (zin_nI hv (by decide)), if_pos (zin_nI hv (by decide)), zcl (by omega), h4]
  generalize hs1 : zup (zup (zup (zup σ 33 (y' % 60) m) 34 (y' % 60) (nI f)) 35 (y' % 60) (q (27 + f))) 36 (y' % 60) (q (36 + f)) = σ1
  have f1 : Fr pBk σ σ1 := by
    rw [← hs1]
    exact Fr.tr (Fr.up rfl) (Fr.tr (Fr.up rfl) (Fr.tr (Fr.up rfl) (Fr.up rfl)))
  have g4 : σ1 32 4 = nI (if y' < 60 then y' else 60) := by rw [← hs1]; exact h4
  have g5 : σ1 32 5 = nI (if y' < 60 then 0 else y' % 60) := by rw [← hs1]; exact h5
  have ek : (q 47).toNatClampNeg % 60 = y' % 60 := by rw [y1, zcl (by omega)]
  have hb47 : bkw m q f 47 = nI (y' + 1) := by
    unfold bkw
    rw [upd_eq, y1, nI_1]
  have lines : ∀ σ' : zS, (∀ p, σ' 33 p = σ1 33 p ∧ σ' 34 p = σ1 34 p ∧ σ' 35 p = σ1 35 p ∧ σ' 36 p = σ1 36 p) → ∀ p, p < 60 → σ' (32 + 1) p = bkw m q f (48 + 4 * p) ∧ σ' (32 + 2) p = bkw m q f (48 + 4 * p + 1) ∧ σ' (32 + 3) p = bkw m q f (48 + 4 * p + 2) ∧ σ' (32 + 4) p = bkw m q f (48 + 4 * p + 3) := by
    intro σ' hσ p hp
    obtain ⟨q1, q2, q3, q4⟩ := hσ p
    obtain ⟨a1, a2, a3, a4⟩ := hl p hp
    show σ' 33 p = _ ∧ σ' 34 p = _ ∧ σ' 35 p = _ ∧ σ' 36 p = _
    rw [q1, q2, q3, q4, ← hs1]
    unfold bkw
    rw [ek]
    simp only [zup_eq, zput_app, Nat.reduceEqDiff, ↓reduceIte]
    by_cases hpk : p = y' % 60
    · subst hpk
      refine ⟨?_, ?_, ?_, ?_⟩
      · rw [upd_eq, upd_ne (by omega), upd_ne (by omega), upd_ne (by omega), upd_ne (by omega), upd_eq]
      · rw [upd_eq, upd_ne (by omega), upd_ne (by omega), upd_ne (by omega), upd_eq]
      · rw [upd_eq, upd_ne (by omega), upd_ne (by omega), upd_eq]
      · rw [upd_eq, upd_ne (by omega), upd_eq]
    · refine ⟨?_, ?_, ?_, ?_⟩
      · rw [upd_ne hpk, upd_ne (by omega), upd_ne (by omega), upd_ne (by omega), upd_ne (by omega), upd_ne (by omega)]; exact a1
      · rw [upd_ne hpk, upd_ne (by omega), upd_ne (by omega), upd_ne (by omega), upd_ne (by omega), upd_ne (by omega)]; exact a2
      · rw [upd_ne hpk, upd_ne (by omega), upd_ne (by omega), upd_ne (by omega), upd_ne (by omega), upd_ne (by omega)]; exact a3
      · rw [upd_ne hpk, upd_ne (by omega), upd_ne (by omega), upd_ne (by omega), upd_ne (by omega), upd_ne (by omega)]; exact a4
  by_cases hlt : y' < 60
  · rw [if_pos hlt] at g4 g5 ⊢
    rw [if_pos (show nI y' < (60 : Int32) from nI_lt (b := 60) hlt (by decide)), show nI y' + (1 : Int32) = nI (y' + 1) from nI_add y' 1]
    refine hq _ (Fr.tr f1 (Fr.up rfl)) ⟨y' + 1, hyb, hb47, ?_, ?_, lines _ (fun p => ⟨rfl, rfl, rfl, rfl⟩)⟩
    · show nI (y' + 1) = _
      congr 1
      split <;> omega
    · show σ1 32 5 = _
      rw [g5]
      congr 1
      split <;> omega
  · rw [if_neg hlt] at g4 g5 ⊢
    rw [if_neg (show ¬ nI 60 < (60 : Int32) by decide), show (Value.int 1) = .int (nI 1) from rfl, c_place g5 (by omega)]
    refine hq _ (Fr.tr f1 (Fr.up rfl)) ⟨y' + 1, hyb, hb47, ?_, ?_, lines _ (fun p => ⟨rfl, rfl, rfl, rfl⟩)⟩
    · show σ1 32 4 = _
      rw [g4]
      congr 1
      split <;> omega
    · show nI ((y' % 60 + 1) % 60) = _
      congr 1
      split <;> omega
