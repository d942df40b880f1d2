/-! remembering: a ring of 13 beside a shifted row of 12 */ -/
/-- R j: the j-th newest row -/
def PQ (F b s x : Nat) (R : Nat → Nat → Int32) (σ : zS) : Prop := σ 37 0 = nI s ∧ σ 37 2 = nI x ∧ ∀ j, j < s → SN (39 + 11 * ((x + 12 - j) % 13)) F b (R j) σ
def PRr (s : Nat) (R : Nat → Nat → Int32) (σ : zS) : Prop := σ 214 30 = nI s ∧ ∀ j, j < s → ∀ i, i < 288 → σ 223 (288 * (s - 1 - j) + i) = R j i
def nwR (r : Nat → Int32) (R : Nat → Nat → Int32) : Nat → Nat → Int32 := fun j => if j = 0 then r else R (j - 1)
def s12 (s : Nat) : Nat := if s < 12 then s + 1 else 12
def pRr (o i : Nat) : Bool := decide ((o = 214 ∧ i = 30) ∨ o = 223)
def pRm (o i : Nat) : Bool := decide ((o = 37 ∧ (i = 0 ∨ i = 2)) ∨ (39 ≤ o ∧ o ≤ 181))
theorem pRr_223 (i : Nat) : pRr 223 i = true := rfl
theorem r_remember215 {d s : Nat} {R : Nat → Nat → Int32} {σ : zS} {Q : Int32 → zS → Prop} (hs : s ≤ 12) (h : PRr s R σ) (hq : ∀ σ', Fr pRr σ σ' → PRr (s12 s) (nwR (σ 215) R) σ' → Q 0 σ') : ZC (d + 2) 209 [.ref 214, .ref 215] σ Q := by
  obtain ⟨h1, h2⟩ := h
  refine k_209_0_i214_215 ?_
  rw [h1]
  by_cases h12 : s = 12
  · subst h12
    rw [if_pos (show nI 12 = (12 : Int32) from rfl)]
    have hloop := z_for (F := 3168) (P := fun k => ∀ g : Nat → Int32, (∀ i, g i = if i < k then σ 223 (i + 288) else σ 223 i) → Z (d + 1) 209 Q 11 [.ref 214, .ref 215, .int (nI k)] [] (zput σ 223 g)) (fun k hk ih g hg => ?_) (fun g hg => ?_)
    · have := hloop (σ 223) (fun i => (if_neg (Nat.not_lt_zero i)).symm)
      rw [zput_self] at this
      exact this
    · refine k_209_11_i214_215 ?_
      rw [if_pos (show nI k < (3168 : Int32) from nI_lt (b := 3168) hk (by decide)), zA288, if_pos (zin_nI (by omega) (by decide)), if_pos (zin_nI (by omega) (by decide)), zcl (by omega), zcl (by omega), show nI k + (1 : Int32) = nI (k + 1) from nI_add k 1]
      have e : zup (zput σ 223 g) 223 k ((zput σ 223 g) 223 (k + 288)) = zput σ 223 (upd g k (σ 223 (k + 288))) := by
        rw [zup_eq, zput_twice]
        simp only [zput_app, ↓reduceIte]
        rw [hg (k + 288), if_neg (by omega)]
      rw [e]
      refine ih _ (fun i => ?_)
      by_cases hik : i = k
      · subst hik; rw [upd_eq, if_pos (by omega)]
      · rw [upd_ne hik, hg i]
        by_cases hlt : i < k
        · rw [if_pos hlt, if_pos (by omega)]
        · rw [if_neg hlt, if_neg (by omega)]
    · refine k_209_11_i214_215 ?_
      rw [if_neg (by decide), show (zput σ 223 g) 214 30 = nI (11 + 1) from h1, nI_m1', zm288, r_lay215_223 (by decide)]
      generalize hs4 : zput (zup (zput σ 223 g) 214 30 (nI 11)) 223 (ly ((zup (zput σ 223 g) 214 30 (nI 11)) 215) ((zup (zput σ 223 g) 214 30 (nI 11)) 223) (288 * 11) 288) = σ4
      have e30 : σ4 214 30 = nI 11 := by rw [← hs4]; rfl
      have e223 : σ4 223 = ly (σ 215) g (288 * 11) 288 := by rw [← hs4]; rfl
      have f4 : Fr pRr σ σ4 := by
        rw [← hs4]
        exact Fr.tr (Fr.put (fun i q => by rw [pRr_223] at q; cases q)) (Fr.tr (Fr.up (by decide)) (Fr.put (fun i q => by rw [pRr_223] at q; cases q)))
      rw [e30, show nI 11 + (1 : Int32) = nI 12 from rfl]
      refine hq _ (Fr.tr f4 (Fr.up (by decide))) ⟨rfl, fun j hj i hi => ?_⟩
      have hj : j < 12 := hj
      show σ4 223 (288 * (12 - 1 - j) + i) = _
      rw [e223]
      by_cases h0 : j = 0
      · subst h0
        exact ly_in _ _ _ _ i hi
      · rw [ly_out _ _ _ _ _ (by omega), hg, if_pos (by omega), show nwR (σ 215) R j = R (j - 1) from if_neg h0, ← h2 (j - 1) (by omega) i hi]
        congr 1
        omega
  · have hlt : s < 12 := by omega
    rw [if_neg (show ¬ nI s = (12 : Int32) from fun q => h12 ((nI_eq (a := s) (b := 12) (by omega) (by decide)).mp q)), zm288, r_lay215_223 (by omega)]
    generalize hs4 : zput σ 223 (ly (σ 215) (σ 223) (288 * s) 288) = σ4
    have e30 : σ4 214 30 = nI s := by rw [← hs4]; exact h1
    have e223 : σ4 223 = ly (σ 215) (σ 223) (288 * s) 288 := by rw [← hs4]; rfl
    have f4 : Fr pRr σ σ4 := by
      rw [← hs4]
      exact Fr.put (fun i q => by rw [pRr_223] at q; cases q)
    rw [e30, show nI s + (1 : Int32) = nI (s + 1) from nI_add s 1]
    have e12 : s12 s = s + 1 := if_pos hlt
    rw [e12] at hq
    refine hq _ (Fr.tr f4 (Fr.up (by decide))) ⟨rfl, fun j hj i hi => ?_⟩
    show σ4 223 (288 * (s + 1 - 1 - j) + i) = _
    rw [e223]
    by_cases h0 : j = 0
    · subst h0
      exact ly_in _ _ _ _ i hi
    · rw [ly_out _ _ _ _ _ (by omega), show nwR (σ 215) R j = R (j - 1) from if_neg h0, ← h2 (j - 1) (by omega) i hi]
      congr 1
      omega
theorem r_remember224 {d s : Nat} {R : Nat → Nat → Int32} {σ : zS} {Q : Int32 → zS → Prop} (hs : s ≤ 12) (h : PRr s R σ) (hq : ∀ σ', Fr pRr σ σ' → PRr (s12 s) (nwR (σ 224) R) σ' → Q 0 σ') : ZC (d + 2) 209 [.ref 214, .ref 224] σ Q := by
  obtain ⟨h1, h2⟩ := h
  refine k_209_0_i214_224 ?_
  rw [h1]
  by_cases h12 : s = 12
  · subst h12
    rw [if_pos (show nI 12 = (12 : Int32) from rfl)]
    have hloop := z_for (F := 3168) (P := fun k => ∀ g : Nat → Int32, (∀ i, g i = if i < k then σ 223 (i + 288) else σ 223 i) → Z (d + 1) 209 Q 11 [.ref 214, .ref 224, .int (nI k)] [] (zput σ 223 g)) (fun k hk ih g hg => ?_) (fun g hg => ?_)
    · have := hloop (σ 223) (fun i => (if_neg (Nat.not_lt_zero i)).symm)
      rw [zput_self] at this
      exact this
    · refine k_209_11_i214_224 ?_
      rw [if_pos (show nI k < (3168 : Int32) from nI_lt (b := 3168) hk (by decide)), zA288, if_pos (zin_nI (by omega) (by decide)), if_pos (zin_nI (by omega) (by decide)), zcl (by omega), zcl (by omega), show nI k + (1 : Int32) = nI (k + 1) from nI_add k 1]
      have e : zup (zput σ 223 g) 223 k ((zput σ 223 g) 223 (k + 288)) = zput σ 223 (upd g k (σ 223 (k + 288))) := by
        rw [zup_eq, zput_twice]
        simp only [zput_app, ↓reduceIte]
        rw [hg (k + 288), if_neg (by omega)]
      rw [e]
      refine ih _ (fun i => ?_)
      by_cases hik : i = k
      · subst hik; rw [upd_eq, if_pos (by omega)]
      · rw [upd_ne hik, hg i]
        by_cases hlt : i < k
        · rw [if_pos hlt, if_pos (by omega)]
        · rw [if_neg hlt, if_neg (by omega)]
    · refine k_209_11_i214_224 ?_
      rw [if_neg (by decide), show (zput σ 223 g) 214 30 = nI (11 + 1) from h1, nI_m1', zm288, r_lay224_223 (by decide)]
      generalize hs4 : zput (zup (zput σ 223 g) 214 30 (nI 11)) 223 (ly ((zup (zput σ 223 g) 214 30 (nI 11)) 224) ((zup (zput σ 223 g) 214 30 (nI 11)) 223) (288 * 11) 288) = σ4
      have e30 : σ4 214 30 = nI 11 := by rw [← hs4]; rfl
      have e223 : σ4 223 = ly (σ 224) g (288 * 11) 288 := by rw [← hs4]; rfl
      have f4 : Fr pRr σ σ4 := by
        rw [← hs4]
        exact Fr.tr (Fr.put (fun i q => by rw [pRr_223] at q; cases q)) (Fr.tr (Fr.up (by decide)) (Fr.put (fun i q => by rw [pRr_223] at q; cases q)))
      rw [e30, show nI 11 + (1 : Int32) = nI 12 from rfl]
      refine hq _ (Fr.tr f4 (Fr.up (by decide))) ⟨rfl, fun j hj i hi => ?_⟩
      have hj : j < 12 := hj
      show σ4 223 (288 * (12 - 1 - j) + i) = _
      rw [e223]
      by_cases h0 : j = 0
      · subst h0
        exact ly_in _ _ _ _ i hi
      · rw [ly_out _ _ _ _ _ (by omega), hg, if_pos (by omega), show nwR (σ 224) R j = R (j - 1) from if_neg h0, ← h2 (j - 1) (by omega) i hi]
        congr 1
        omega
  · have hlt : s < 12 := by omega
    rw [if_neg (show ¬ nI s = (12 : Int32) from fun q => h12 ((nI_eq (a := s) (b := 12) (by omega) (by decide)).mp q)), zm288, r_lay224_223 (by omega)]
    generalize hs4 : zput σ 223 (ly (σ 224) (σ 223) (288 * s) 288) = σ4
    have e30 : σ4 214 30 = nI s := by rw [← hs4]; exact h1
    have e223 : σ4 223 = ly (σ 224) (σ 223) (288 * s) 288 := by rw [← hs4]; rfl
    have f4 : Fr pRr σ σ4 := by
      rw [← hs4]
      exact Fr.put (fun i q => by rw [pRr_223] at q; cases q)
    rw [e30, show nI s + (1 : Int32) = nI (s + 1) from nI_add s 1]
    have e12 : s12 s = s + 1 := if_pos hlt
    rw [e12] at hq
    refine hq _ (Fr.tr f4 (Fr.up (by decide))) ⟨rfl, fun j hj i hi => ?_⟩
    show σ4 223 (288 * (s + 1 - 1 - j) + i) = _
    rw [e223]
    by_cases h0 : j = 0
    · subst h0
      exact ly_in _ _ _ _ i hi
    · rw [ly_out _ _ _ _ _ (by omega), show nwR (σ 224) R j = R (j - 1) from if_neg h0, ← h2 (j - 1) (by omega) i hi]
      congr 1
      omega
/-! the class -/
theorem c_draft39 {d F b t : Nat} {r : Nat → Int32} {w : Value} {σ : zS} {Q : Int32 → zS → Prop} (h9 : F ≤ 9) (h1 : CM 17 F r σ) (h2 : CB 32 r σ) (ht : t ≤ b) (hw : WR F t r) (hq : ∀ σ2, Fr (fun o _ => decide (39 ≤ o ∧ o ≤ 39 + 10)) σ σ2 → SN 39 F b r σ2 → Q 0 σ2) : Z (d + 2) 35 Q 9 [.ref 37, .ref 14, .ref 32, w] [.ref 39] σ := by
  refine k_35_9_39 ?_
  refine k_23_0_i39_14_32 ?_
  refine c_mtake40_17 (fun σ1 f1 m1 => ?_)
  refine c_btake45_32 (fun σ2 f2 m2 => ?_)
  refine hq _ (Fr.tr (Fr.mono f1 (fun o i q => ?_)) (Fr.tr (Fr.mono f2 (fun o i q => ?_)) (Fr.tr (Fr.up rfl) (Fr.up rfl)))) ?_
  · have q := of_decide_eq_false q
    exact decide_eq_false (by omega)
  · have q := of_decide_eq_false q
    exact decide_eq_false (by omega)
  · refine SN.ag (σ := σ2) ⟨CM.ag (CM.copy h9 m1 h1) (fun o i p1 p2 => f2 o i (decide_eq_false (by omega))), CB.copy m2 (CB.ag h2 (fun _ _ _ => rfl) (fun o i p1 p2 => f1 o i (decide_eq_false (by omega)))), t, ht, hw⟩ (fun o i p1 p2 => ?_)
    simp only [zup_eq, zput_app]
    rw [if_neg (by omega), if_neg (by omega)]
theorem c_draft50 {d F b t : Nat} {r : Nat → Int32} {w : Value} {σ : zS} {Q : Int32 → zS → Prop} (h9 : F ≤ 9) (h1 : CM 17 F r σ) (h2 : CB 32 r σ) (ht : t ≤ b) (hw : WR F t r) (hq : ∀ σ2, Fr (fun o _ => decide (50 ≤ o ∧ o ≤ 50 + 10)) σ σ2 → SN 50 F b r σ2 → Q 0 σ2) : Z (d + 2) 35 Q 9 [.ref 37, .ref 14, .ref 32, w] [.ref 50] σ := by
  refine k_35_9_50 ?_
  refine k_23_0_i50_14_32 ?_
  refine c_mtake51_17 (fun σ1 f1 m1 => ?_)
  refine c_btake56_32 (fun σ2 f2 m2 => ?_)
  refine hq _ (Fr.tr (Fr.mono f1 (fun o i q => ?_)) (Fr.tr (Fr.mono f2 (fun o i q => ?_)) (Fr.tr (Fr.up rfl) (Fr.up rfl)))) ?_
  · have q := of_decide_eq_false q
    exact decide_eq_false (by omega)
  · have q := of_decide_eq_false q
    exact decide_eq_false (by omega)
  · refine SN.ag (σ := σ2) ⟨CM.ag (CM.copy h9 m1 h1) (fun o i p1 p2 => f2 o i (decide_eq_false (by omega))), CB.copy m2 (CB.ag h2 (fun _ _ _ => rfl) (fun o i p1 p2 => f1 o i (decide_eq_false (by omega)))), t, ht, hw⟩ (fun o i p1 p2 => ?_)
    simp only [zup_eq, zput_app]
    rw [if_neg (by omega), if_neg (by omega)]
theorem c_draft61 {d F b t : Nat} {r : Nat → Int32} {w : Value} {σ : zS} {Q : Int32 → zS → Prop} (h9 : F ≤ 9) (h1 : CM 17 F r σ) (h2 : CB 32 r σ) (ht : t ≤ b) (hw : WR F t r) (hq : ∀ σ2, Fr (fun o _ => decide (61 ≤ o ∧ o ≤ 61 + 10)) σ σ2 → SN 61 F b r σ2 → Q 0 σ2) : Z (d + 2) 35 Q 9 [.ref 37, .ref 14, .ref 32, w] [.ref 61] σ := by
  refine k_35_9_61 ?_
  refine k_23_0_i61_14_32 ?_
  refine c_mtake62_17 (fun σ1 f1 m1 => ?_)
  refine c_btake67_32 (fun σ2 f2 m2 => ?_)
  refine hq _ (Fr.tr (Fr.mono f1 (fun o i q => ?_)) (Fr.tr (Fr.mono f2 (fun o i q => ?_)) (Fr.tr (Fr.up rfl) (Fr.up rfl)))) ?_
  · have q := of_decide_eq_false q
    exact decide_eq_false (by omega)
  · have q := of_decide_eq_false q
    exact decide_eq_false (by omega)
  · refine SN.ag (σ := σ2) ⟨CM.ag (CM.copy h9 m1 h1) (fun o i p1 p2 => f2 o i (decide_eq_false (by omega))), CB.copy m2 (CB.ag h2 (fun _ _ _ => rfl) (fun o i p1 p2 => f1 o i (decide_eq_false (by omega)))), t, ht, hw⟩ (fun o i p1 p2 => ?_)
    simp only [zup_eq, zput_app]
    rw [if_neg (by omega), if_neg (by omega)]
theorem c_draft72 {d F b t : Nat} {r : Nat → Int32} {w : Value} {σ : zS} {Q : Int32 → zS → Prop} (h9 : F ≤ 9) (h1 : CM 17 F r σ) (h2 : CB 32 r σ) (ht : t ≤ b) (hw : WR F t r) (hq : ∀ σ2, Fr (fun o _ => decide (72 ≤ o ∧ o ≤ 72 + 10)) σ σ2 → SN 72 F b r σ2 → Q 0 σ2) : Z (d + 2) 35 Q 9 [.ref 37, .ref 14, .ref 32, w] [.ref 72] σ := by
  refine k_35_9_72 ?_
  refine k_23_0_i72_14_32 ?_
  refine c_mtake73_17 (fun σ1 f1 m1 => ?_)
  refine c_btake78_32 (fun σ2 f2 m2 => ?_)
  refine hq _ (Fr.tr (Fr.mono f1 (fun o i q => ?_)) (Fr.tr (Fr.mono f2 (fun o i q => ?_)) (Fr.tr (Fr.up rfl) (Fr.up rfl)))) ?_
  · have q := of_decide_eq_false q
    exact decide_eq_false (by omega)
  · have q := of_decide_eq_false q
    exact decide_eq_false (by omega)
  · refine SN.ag (σ := σ2) ⟨CM.ag (CM.copy h9 m1 h1) (fun o i p1 p2 => f2 o i (decide_eq_false (by omega))), CB.copy m2 (CB.ag h2 (fun _ _ _ => rfl) (fun o i p1 p2 => f1 o i (decide_eq_false (by omega)))), t, ht, hw⟩ (fun o i p1 p2 => ?_)
    simp only [zup_eq, zput_app]
    rw [if_neg (by omega), if_neg (by omega)]
theorem c_draft83 {d F b t : Nat} {r : Nat → Int32} {w : Value} {σ : zS} {Q : Int32 → zS → Prop} (h9 : F ≤ 9) (h1 : CM 17 F r σ) (h2 : CB 32 r σ) (ht : t ≤ b) (hw : WR F t r) (hq : ∀ σ2, Fr (fun o _ => decide (83 ≤ o ∧ o ≤ 83 + 10)) σ σ2 → SN 83 F b r σ2 → Q 0 σ2) : Z (d + 2) 35 Q 9 [.ref 37, .ref 14, .ref 32, w] [.ref 83] σ := by
  refine k_35_9_83 ?_
  refine k_23_0_i83_14_32 ?_
  refine c_mtake84_17 (fun σ1 f1 m1 => ?_)
  refine c_btake89_32 (fun σ2 f2 m2 => ?_)
  refine hq _ (Fr.tr (Fr.mono f1 (fun o i q => ?_)) (Fr.tr (Fr.mono f2 (fun o i q => ?_)) (Fr.tr (Fr.up rfl) (Fr.up rfl)))) ?_
  · have q := of_decide_eq_false q
    exact decide_eq_false (by omega)
  · have q := of_decide_eq_false q
    exact decide_eq_false (by omega)
  · refine SN.ag (σ := σ2) ⟨CM.ag (CM.copy h9 m1 h1) (fun o i p1 p2 => f2 o i (decide_eq_false (by omega))), CB.copy m2 (CB.ag h2 (fun _ _ _ => rfl) (fun o i p1 p2 => f1 o i (decide_eq_false (by omega)))), t, ht, hw⟩ (fun o i p1 p2 => ?_)
    simp only [zup_eq, zput_app]
    rw [if_neg (by omega), if_neg (by omega)]
theorem c_draft94 {d F b t : Nat} {r : Nat → Int32} {w : Value} {σ : zS} {Q : Int32 → zS → Prop} (h9 : F ≤ 9) (h1 : CM 17 F r σ) (h2 : CB 32 r σ) (ht : t ≤ b) (hw : WR F t r) (hq : ∀ σ2, Fr (fun o _ => decide (94 ≤ o ∧ o ≤ 94 + 10)) σ σ2 → SN 94 F b r σ2 → Q 0 σ2) : Z (d + 2) 35 Q 9 [.ref 37, .ref 14, .ref 32, w] [.ref 94] σ := by
  refine k_35_9_94 ?_
  refine k_23_0_i94_14_32 ?_
  refine c_mtake95_17 (fun σ1 f1 m1 => ?_)
  refine c_btake100_32 (fun σ2 f2 m2 => ?_)
  refine hq _ (Fr.tr (Fr.mono f1 (fun o i q => ?_)) (Fr.tr (Fr.mono f2 (fun o i q => ?_)) (Fr.tr (Fr.up rfl) (Fr.up rfl)))) ?_
  · have q := of_decide_eq_false q
    exact decide_eq_false (by omega)
  · have q := of_decide_eq_false q
    exact decide_eq_false (by omega)
  · refine SN.ag (σ := σ2) ⟨CM.ag (CM.copy h9 m1 h1) (fun o i p1 p2 => f2 o i (decide_eq_false (by omega))), CB.copy m2 (CB.ag h2 (fun _ _ _ => rfl) (fun o i p1 p2 => f1 o i (decide_eq_false (by omega)))), t, ht, hw⟩ (fun o i p1 p2 => ?_)
    simp only [zup_eq, zput_app]
    rw [if_neg (by omega), if_neg (by omega)]
theorem c_draft105 {d F b t : Nat} {r : Nat → Int32} {w : Value} {σ : zS} {Q : Int32 → zS → Prop} (h9 : F ≤ 9) (h1 : CM 17 F r σ) (h2 : CB 32 r σ) (ht : t ≤ b) (hw : WR F t r) (hq : ∀ σ2, Fr (fun o _ => decide (105 ≤ o ∧ o ≤ 105 + 10)) σ σ2 → SN 105 F b r σ2 → Q 0 σ2) : Z (d + 2) 35 Q 9 [.ref 37, .ref 14, .ref 32, w] [.ref 105] σ := by
  refine k_35_9_105 ?_
  refine k_23_0_i105_14_32 ?_
  refine c_mtake106_17 (fun σ1 f1 m1 => ?_)
  refine c_btake111_32 (fun σ2 f2 m2 => ?_)
  refine hq _ (Fr.tr (Fr.mono f1 (fun o i q => ?_)) (Fr.tr (Fr.mono f2 (fun o i q => ?_)) (Fr.tr (Fr.up rfl) (Fr.up rfl)))) ?_
  · have q := of_decide_eq_false q
    exact decide_eq_false (by omega)
  · have q := of_decide_eq_false q
    exact decide_eq_false (by omega)
  · refine SN.ag (σ := σ2) ⟨CM.ag (CM.copy h9 m1 h1) (fun o i p1 p2 => f2 o i (decide_eq_false (by omega))), CB.copy m2 (CB.ag h2 (fun _ _ _ => rfl) (fun o i p1 p2 => f1 o i (decide_eq_false (by omega)))), t, ht, hw⟩ (fun o i p1 p2 => ?_)
    simp only [zup_eq, zput_app]
    rw [if_neg (by omega), if_neg (by omega)]
theorem c_draft116 {d F b t : Nat} {r : Nat → Int32} {w : Value} {σ : zS} {Q : Int32 → zS → Prop} (h9 : F ≤ 9) (h1 : CM 17 F r σ) (h2 : CB 32 r σ) (ht : t ≤ b) (hw : WR F t r) (hq : ∀ σ2, Fr (fun o _ => decide (116 ≤ o ∧ o ≤ 116 + 10)) σ σ2 → SN 116 F b r σ2 → Q 0 σ2) : Z (d + 2) 35 Q 9 [.ref 37, .ref 14, .ref 32, w] [.ref 116] σ := by
  refine k_35_9_116 ?_
  refine k_23_0_i116_14_32 ?_
  refine c_mtake117_17 (fun σ1 f1 m1 => ?_)
  refine c_btake122_32 (fun σ2 f2 m2 => ?_)
  refine hq _ (Fr.tr (Fr.mono f1 (fun o i q => ?_)) (Fr.tr (Fr.mono f2 (fun o i q => ?_)) (Fr.tr (Fr.up rfl) (Fr.up rfl)))) ?_
  · have q := of_decide_eq_false q
    exact decide_eq_false (by omega)
  · have q := of_decide_eq_false q
    exact decide_eq_false (by omega)
  · refine SN.ag (σ := σ2) ⟨CM.ag (CM.copy h9 m1 h1) (fun o i p1 p2 => f2 o i (decide_eq_false (by omega))), CB.copy m2 (CB.ag h2 (fun _ _ _ => rfl) (fun o i p1 p2 => f1 o i (decide_eq_false (by omega)))), t, ht, hw⟩ (fun o i p1 p2 => ?_)
    simp only [zup_eq, zput_app]
    rw [if_neg (by omega), if_neg (by omega)]
theorem c_draft127 {d F b t : Nat} {r : Nat → Int32} {w : Value} {σ : zS} {Q : Int32 → zS → Prop} (h9 : F ≤ 9) (h1 : CM 17 F r σ) (h2 : CB 32 r σ) (ht : t ≤ b) (hw : WR F t r) (hq : ∀ σ2, Fr (fun o _ => decide (127 ≤ o ∧ o ≤ 127 + 10)) σ σ2 → SN 127 F b r σ2 → Q 0 σ2) : Z (d + 2) 35 Q 9 [.ref 37, .ref 14, .ref 32, w] [.ref 127] σ := by
  refine k_35_9_127 ?_
  refine k_23_0_i127_14_32 ?_
  refine c_mtake128_17 (fun σ1 f1 m1 => ?_)
  refine c_btake133_32 (fun σ2 f2 m2 => ?_)
  refine hq _ (Fr.tr (Fr.mono f1 (fun o i q => ?_)) (Fr.tr (Fr.mono f2 (fun o i q => ?_)) (Fr.tr (Fr.up rfl) (Fr.up rfl)))) ?_
  · have q := of_decide_eq_false q
    exact decide_eq_false (by omega)
  · have q := of_decide_eq_false q
    exact decide_eq_false (by omega)
  · refine SN.ag (σ := σ2) ⟨CM.ag (CM.copy h9 m1 h1) (fun o i p1 p2 => f2 o i (decide_eq_false (by omega))), CB.copy m2 (CB.ag h2 (fun _ _ _ => rfl) (fun o i p1 p2 => f1 o i (decide_eq_false (by omega)))), t, ht, hw⟩ (fun o i p1 p2 => ?_)
    simp only [zup_eq, zput_app]
    rw [if_neg (by omega), if_neg (by omega)]
theorem c_draft138 {d F b t : Nat} {r : Nat → Int32} {w : Value} {σ : zS} {Q : Int32 → zS → Prop} (h9 : F ≤ 9) (h1 : CM 17 F r σ) (h2 : CB 32 r σ) (ht : t ≤ b) (hw : WR F t r) (hq : ∀ σ2, Fr (fun o _ => decide (138 ≤ o ∧ o ≤ 138 + 10)) σ σ2 → SN 138 F b r σ2 → Q 0 σ2) : Z (d + 2) 35 Q 9 [.ref 37, .ref 14, .ref 32, w] [.ref 138] σ := by
  refine k_35_9_138 ?_
  refine k_23_0_i138_14_32 ?_
  refine c_mtake139_17 (fun σ1 f1 m1 => ?_)
  refine c_btake144_32 (fun σ2 f2 m2 => ?_)
  refine hq _ (Fr.tr (Fr.mono f1 (fun o i q => ?_)) (Fr.tr (Fr.mono f2 (fun o i q => ?_)) (Fr.tr (Fr.up rfl) (Fr.up rfl)))) ?_
  · have q := of_decide_eq_false q
    exact decide_eq_false (by omega)
  · have q := of_decide_eq_false q
    exact decide_eq_false (by omega)
  · refine SN.ag (σ := σ2) ⟨CM.ag (CM.copy h9 m1 h1) (fun o i p1 p2 => f2 o i (decide_eq_false (by omega))), CB.copy m2 (CB.ag h2 (fun _ _ _ => rfl) (fun o i p1 p2 => f1 o i (decide_eq_false (by omega)))), t, ht, hw⟩ (fun o i p1 p2 => ?_)
    simp only [zup_eq, zput_app]
    rw [if_neg (by omega), if_neg (by omega)]
theorem c_draft149 {d F b t : Nat} {r : Nat → Int32} {w : Value} {σ : zS} {Q : Int32 → zS → Prop} (h9 : F ≤ 9) (h1 : CM 17 F r σ) (h2 : CB 32 r σ) (ht : t ≤ b) (hw : WR F t r) (hq : ∀ σ2, Fr (fun o _ => decide (149 ≤ o ∧ o ≤ 149 + 10)) σ σ2 → SN 149 F b r σ2 → Q 0 σ2) : Z (d + 2) 35 Q 9 [.ref 37, .ref 14, .ref 32, w] [.ref 149] σ := by
  refine k_35_9_149 ?_
  refine k_23_0_i149_14_32 ?_
  refine c_mtake150_17 (fun σ1 f1 m1 => ?_)
  refine c_btake155_32 (fun σ2 f2 m2 => ?_)
  refine hq _ (Fr.tr (Fr.mono f1 (fun o i q => ?_)) (Fr.tr (Fr.mono f2 (fun o i q => ?_)) (Fr.tr (Fr.up rfl) (Fr.up rfl)))) ?_
  · have q := of_decide_eq_false q
    exact decide_eq_false (by omega)
  · have q := of_decide_eq_false q
    exact decide_eq_false (by omega)
  · refine SN.ag (σ := σ2) ⟨CM.ag (CM.copy h9 m1 h1) (fun o i p1 p2 => f2 o i (decide_eq_false (by omega))), CB.copy m2 (CB.ag h2 (fun _ _ _ => rfl) (fun o i p1 p2 => f1 o i (decide_eq_false (by omega)))), t, ht, hw⟩ (fun o i p1 p2 => ?_)
    simp only [zup_eq, zput_app]
    rw [if_neg (by omega), if_neg (by omega)]
theorem c_draft160 {d F b t : Nat} {r : Nat → Int32} {w : Value} {σ : zS} {Q : Int32 → zS → Prop} (h9 : F ≤ 9) (h1 : CM 17 F r σ) (h2 : CB 32 r σ) (ht : t ≤ b) (hw : WR F t r) (hq : ∀ σ2, Fr (fun o _ => decide (160 ≤ o ∧ o ≤ 160 + 10)) σ σ2 → SN 160 F b r σ2 → Q 0 σ2) : Z (d + 2) 35 Q 9 [.ref 37, .ref 14, .ref 32, w] [.ref 160] σ := by
  refine k_35_9_160 ?_
  refine k_23_0_i160_14_32 ?_
  refine c_mtake161_17 (fun σ1 f1 m1 => ?_)
  refine c_btake166_32 (fun σ2 f2 m2 => ?_)
  refine hq _ (Fr.tr (Fr.mono f1 (fun o i q => ?_)) (Fr.tr (Fr.mono f2 (fun o i q => ?_)) (Fr.tr (Fr.up rfl) (Fr.up rfl)))) ?_
  · have q := of_decide_eq_false q
    exact decide_eq_false (by omega)
  · have q := of_decide_eq_false q
    exact decide_eq_false (by omega)
  · refine SN.ag (σ := σ2) ⟨CM.ag (CM.copy h9 m1 h1) (fun o i p1 p2 => f2 o i (decide_eq_false (by omega))), CB.copy m2 (CB.ag h2 (fun _ _ _ => rfl) (fun o i p1 p2 => f1 o i (decide_eq_false (by omega)))), t, ht, hw⟩ (fun o i p1 p2 => ?_)
    simp only [zup_eq, zput_app]
    rw [if_neg (by omega), if_neg (by omega)]
theorem c_draft171 {d F b t : Nat} {r : Nat → Int32} {w : Value} {σ : zS} {Q : Int32 → zS → Prop} (h9 : F ≤ 9) (h1 : CM 17 F r σ) (h2 : CB 32 r σ) (ht : t ≤ b) (hw : WR F t r) (hq : ∀ σ2, Fr (fun o _ => decide (171 ≤ o ∧ o ≤ 171 + 10)) σ σ2 → SN 171 F b r σ2 → Q 0 σ2) : Z (d + 2) 35 Q 9 [.ref 37, .ref 14, .ref 32, w] [.ref 171] σ := by
  refine k_35_9_171 ?_
  refine k_23_0_i171_14_32 ?_
  refine c_mtake172_17 (fun σ1 f1 m1 => ?_)
  refine c_btake177_32 (fun σ2 f2 m2 => ?_)
  refine hq _ (Fr.tr (Fr.mono f1 (fun o i q => ?_)) (Fr.tr (Fr.mono f2 (fun o i q => ?_)) (Fr.tr (Fr.up rfl) (Fr.up rfl)))) ?_
  · have q := of_decide_eq_false q
    exact decide_eq_false (by omega)
  · have q := of_decide_eq_false q
    exact decide_eq_false (by omega)
  · refine SN.ag (σ := σ2) ⟨CM.ag (CM.copy h9 m1 h1) (fun o i p1 p2 => f2 o i (decide_eq_false (by omega))), CB.copy m2 (CB.ag h2 (fun _ _ _ => rfl) (fun o i p1 p2 => f1 o i (decide_eq_false (by omega)))), t, ht, hw⟩ (fun o i p1 p2 => ?_)
    simp only [zup_eq, zput_app]
    rw [if_neg (by omega), if_neg (by omega)]
theorem c_draftAll {d F b t x : Nat} {r : Nat → Int32} {w : Value} {σ : zS} {Q : Int32 → zS → Prop} (hx : x < 13) (h9 : F ≤ 9) (h1 : CM 17 F r σ) (h2 : CB 32 r σ) (ht : t ≤ b) (hw : WR F t r) (hq : ∀ σ2, Fr (fun o _ => decide (39 + 11 * x ≤ o ∧ o ≤ 39 + 11 * x + 10)) σ σ2 → SN (39 + 11 * x) F b r σ2 → Q 0 σ2) : Z (d + 2) 35 Q 9 [.ref 37, .ref 14, .ref 32, w] [.ref ([39, 50, 61, 72, 83, 94, 105, 116, 127, 138, 149, 160, 171].getD x 0)] σ := by
  have h : x = 0 ∨ x = 1 ∨ x = 2 ∨ x = 3 ∨ x = 4 ∨ x = 5 ∨ x = 6 ∨ x = 7 ∨ x = 8 ∨ x = 9 ∨ x = 10 ∨ x = 11 ∨ x = 12 := by omega
  rcases h with rfl | rfl | rfl | rfl | rfl | rfl | rfl | rfl | rfl | rfl | rfl | rfl | rfl
  · exact c_draft39 h9 h1 h2 ht hw hq
  · exact c_draft50 h9 h1 h2 ht hw hq
  · exact c_draft61 h9 h1 h2 ht hw hq
  · exact c_draft72 h9 h1 h2 ht hw hq
  · exact c_draft83 h9 h1 h2 ht hw hq
  · exact c_draft94 h9 h1 h2 ht hw hq
  · exact c_draft105 h9 h1 h2 ht hw hq
  · exact c_draft116 h9 h1 h2 ht hw hq
  · exact c_draft127 h9 h1 h2 ht hw hq
  · exact c_draft138 h9 h1 h2 ht hw hq
  · exact c_draft149 h9 h1 h2 ht hw hq
  · exact c_draft160 h9 h1 h2 ht hw hq
  · exact c_draft171 h9 h1 h2 ht hw hq
theorem c_remember {d F b t s x : Nat} {r : Nat → Int32} {R : Nat → Nat → Int32} {σ : zS} {Q : Int32 → zS → Prop} (hs : s ≤ 12) (hx : x < 13) (h9 : F ≤ 9) (h1 : CM 17 F r σ) (h2 : CB 32 r σ) (ht : t ≤ b) (hw : WR F t r) (h : PQ F b s x R σ) (hq : ∀ σ', Fr pRm σ σ' → PQ F b (s12 s) ((x + 1) % 13) (nwR r R) σ' → Q 0 σ') : ZC (d + 4) 137 [.ref 0] σ Q := by
  obtain ⟨p1, p2, p3⟩ := h
  refine k_137_0 ?_
  refine k_35_0 ?_
  rw [p2, if_pos (zin_nI hx (by decide)), zcl (by omega)]
  refine c_draftAll hx h9 h1 h2 ht hw (fun σ1 f1 g1 => ?_)
  have o1 : ∀ o i, ¬ (39 + 11 * x ≤ o ∧ o ≤ 39 + 11 * x + 10) → σ1 o i = σ o i := fun o i q => f1 o i (decide_eq_false q)
  refine k_36_0 ?_
  rw [o1 37 0 (by omega), o1 37 2 (by omega), p1, p2, show nI x + (1 : Int32) = nI (x + 1) from nI_add x 1, show nI s + (1 : Int32) = nI (s + 1) from nI_add s 1, show zrem (nI (x + 1)) 13 = nI ((x + 1) % 13) from zrem_nI (b := 13) (by omega) (by decide) (by decide), s_mn]
  have e12 : (if (12 : Int32) < nI (s + 1) then (12 : Int32) else nI (s + 1)) = nI (s12 s) := by
    unfold s12
    by_cases hlt : s < 12
    · rw [if_pos hlt, if_neg (show ¬ (12 : Int32) < nI (s + 1) from nI_nlt (a := 12) (by omega) (by omega))]
    · rw [if_neg hlt, if_pos (show (12 : Int32) < nI (s + 1) from nI_lt (a := 12) (by omega) (by omega))]
      rfl
  rw [e12]
  have hsx : s12 s ≤ 12 ∧ s12 s ≤ s + 1 := by unfold s12; split <;> omega
  refine hq _ (Fr.tr (Fr.mono f1 (fun o i q => ?_)) (Fr.tr (Fr.up (by decide)) (Fr.up (by decide)))) ⟨rfl, rfl, fun j hj => ?_⟩
  · have q := of_decide_eq_false q
    exact decide_eq_false (by omega)
  · have keep : ∀ o i, o ≠ 37 → (zup (zup σ1 37 2 (nI ((x + 1) % 13))) 37 0 (nI (s12 s))) o i = σ1 o i := fun o i q => by
      simp only [zup_eq, zput_app]
      rw [if_neg q, if_neg q]
    by_cases h0 : j = 0
    · subst h0
      rw [show ((x + 1) % 13 + 12 - 0) % 13 = x by omega, show nwR r R 0 = r from rfl]
      exact SN.ag g1 (fun o i q1 q2 => keep o i (by omega))
    · have := p3 (j - 1) (by omega)
      rw [show nwR r R j = R (j - 1) from if_neg h0, show ((x + 1) % 13 + 12 - j) % 13 = (x + 12 - (j - 1)) % 13 by omega]
      have hm : (x + 12 - (j - 1)) % 13 < 13 := Nat.mod_lt _ (by decide)
      have hne : (x + 12 - (j - 1)) % 13 ≠ x := by omega
      exact SN.ag this (fun o i q1 q2 => (keep o i (by omega)).trans (o1 o i (by omega)))
