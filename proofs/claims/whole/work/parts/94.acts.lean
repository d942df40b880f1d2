/-! ACTS of AN HOUR: what they say; the class reads them -/
def pAct (C : Nat → Nat) (a : Nat) : Bool × Nat × Nat × Nat × Nat :=
  if C a = 109 then (if 48 ≤ C (a + 1) ∧ C (a + 1) ≤ 57 then (if 48 ≤ C (a + 2) ∧ C (a + 2) ≤ 57 then (true, a + 3, 109, 0, 10 * (C (a + 1) - 48) + (C (a + 2) - 48)) else (true, a + 2, 109, 0, C (a + 1) - 48)) else (false, a + 1, 0, 0, 0))
  else if C a = 121 ∨ C a = 102 ∨ C a = 97 ∨ C a = 116 then (if 97 ≤ C (a + 1) ∧ C (a + 1) ≤ 105 then (if C a = 116 then (if 48 ≤ C (a + 2) ∧ C (a + 2) ≤ 57 then (true, a + 3, 116, C (a + 1) - 97, C (a + 2) - 48) else (false, a + 2, 0, 0, 0)) else (true, a + 2, C a, C (a + 1) - 97, 0)) else (false, a + 1, 0, 0, 0))
  else (false, a, 0, 0, 0)
def whs (w : Nat) : Prop := w = 109 ∨ w = 121 ∨ w = 102 ∨ w = 97 ∨ w = 116
theorem pAct_le {C : Nat → Nat} {L : Nat} (hC : ∀ i, L ≤ i → C i = 999) {a : Nat} (ha : a ≤ L) : a ≤ (pAct C a).2.1 ∧ (pAct C a).2.1 ≤ L ∧ ((pAct C a).1 = true → a + 2 ≤ (pAct C a).2.1 ∧ whs (pAct C a).2.2.1 ∧ (pAct C a).2.2.2.1 < 9 ∧ (pAct C a).2.2.2.2 ≤ 99 ∧ ((pAct C a).2.2.1 = 116 → (pAct C a).2.2.2.2 ≤ 9)) := by
  have hi : ∀ i, C i ≠ 999 → i < L := fun i h => inL hC h
  unfold pAct
  by_cases h0 : C a = 109
  · have l0 := hi a (by omega)
    rw [if_pos h0]
    by_cases h1 : 48 ≤ C (a + 1) ∧ C (a + 1) ≤ 57
    · have l1 := hi (a + 1) (by omega)
      rw [if_pos h1]
      by_cases h2 : 48 ≤ C (a + 2) ∧ C (a + 2) ≤ 57
      · have l2 := hi (a + 2) (by omega)
        rw [if_pos h2]
        exact ⟨by show a ≤ a + 3; omega, by show a + 3 ≤ L; omega, fun _ => ⟨by show a + 2 ≤ a + 3; omega, Or.inl rfl, by show 0 < 9; decide, by show 10 * (C (a + 1) - 48) + (C (a + 2) - 48) ≤ 99; omega, fun q => absurd q (by decide : ¬ (109 = 116))⟩⟩
      · rw [if_neg h2]
        exact ⟨by show a ≤ a + 2; omega, by show a + 2 ≤ L; omega, fun _ => ⟨by show a + 2 ≤ a + 2; omega, Or.inl rfl, by show 0 < 9; decide, by show C (a + 1) - 48 ≤ 99; omega, fun q => absurd q (by decide : ¬ (109 = 116))⟩⟩
    · rw [if_neg h1]
      exact ⟨by show a ≤ a + 1; omega, by show a + 1 ≤ L; omega, fun q => by cases q⟩
  · rw [if_neg h0]
    by_cases h1 : C a = 121 ∨ C a = 102 ∨ C a = 97 ∨ C a = 116
    · have l0 := hi a (by omega)
      rw [if_pos h1]
      by_cases h2 : 97 ≤ C (a + 1) ∧ C (a + 1) ≤ 105
      · have l1 := hi (a + 1) (by omega)
        rw [if_pos h2]
        by_cases h3 : C a = 116
        · rw [if_pos h3]
          by_cases h4 : 48 ≤ C (a + 2) ∧ C (a + 2) ≤ 57
          · have l2 := hi (a + 2) (by omega)
            rw [if_pos h4]
            exact ⟨by show a ≤ a + 3; omega, by show a + 3 ≤ L; omega, fun _ => ⟨by show a + 2 ≤ a + 3; omega, Or.inr (Or.inr (Or.inr (Or.inr rfl))), by show C (a + 1) - 97 < 9; omega, by show C (a + 2) - 48 ≤ 99; omega, fun _ => by show C (a + 2) - 48 ≤ 9; omega⟩⟩
          · rw [if_neg h4]
            exact ⟨by show a ≤ a + 2; omega, by show a + 2 ≤ L; omega, fun q => by cases q⟩
        · rw [if_neg h3]
          exact ⟨by show a ≤ a + 2; omega, by show a + 2 ≤ L; omega, fun _ => ⟨by show a + 2 ≤ a + 2; omega, by show whs (C a); unfold whs; omega, by show C (a + 1) - 97 < 9; omega, by show 0 ≤ 99; decide, fun _ => by show 0 ≤ 9; decide⟩⟩
      · rw [if_neg h2]
        exact ⟨by show a ≤ a + 1; omega, by show a + 1 ≤ L; omega, fun q => by cases q⟩
    · rw [if_neg h1]
      exact ⟨Nat.le_refl a, ha, fun q => by cases q⟩
def pRo (k o i : Nat) : Bool := decide ((o = 1 ∧ i = 2) ∨ (o = 10 ∧ i = 3) ∨ ((o = 11 ∨ o = 12 ∨ o = 13) ∧ k ≤ i))
def wf (w f : Nat) : Int32 := if w = 109 then -1 else nI f
def ActC (C : Nat → Nat) (a k : Nat) (σ : zS) : Prop := σ 11 k = nI (pAct C a).2.2.1 ∧ σ 12 k = wf (pAct C a).2.2.1 (pAct C a).2.2.2.1 ∧ σ 13 k = nI (pAct C a).2.2.2.2
theorem c_actPut {d k : Nat} {σ : zS} (hk : k < 20) (h : σ 10 3 = nI k) (x y z : Int32) (Q : Int32 → zS → Prop) : ZC (d + 1) 10 [.ref 10, .int x, .int y, .int z] σ Q = Q 1 (zup (zup (zup (zup σ 11 k x) 12 k y) 13 k z) 10 3 (nI (k + 1))) := by
  refine s_of (fun Q hq => k_10_0 ?_) Q
  rw [h, if_neg (nI_pos (by omega)), if_pos (show nI k < 20 from nI_lt (b := 20) hk (by decide)), if_pos (zin_nI (by omega) (by decide)), if_pos (zin_nI (by omega) (by decide)), if_pos (zin_nI (by omega) (by decide)), zcl (by omega)]
  have e : nI k + (1 : Int32) = nI (k + 1) := nI_add k 1
  first
    | rw [e]; exact hq
    | (rw [show (zup (zup (zup σ 11 k x) 12 k y) 13 k z) 10 3 = nI k from h, e]; exact hq)
theorem actC_put {k : Nat} {x y z : Int32} {σ σ' : zS} (hf : Fr p1w σ σ') (Q : Prop) (h : Fr (pRo k) σ (zup (zup (zup (zup σ' 11 k x) 12 k y) 13 k z) 10 3 (nI (k + 1))) → Q) : Q := by
  refine h (Fr.tr (Fr.mono hf (fun o i q => ?_)) (Fr.tr (Fr.up (decide_eq_true (by omega))) (Fr.tr (Fr.up (decide_eq_true (by omega))) (Fr.tr (Fr.up (decide_eq_true (by omega))) (Fr.up (decide_eq_true (by omega)))))))
  unfold pRo at q
  unfold p1w
  rw [decide_eq_false_iff_not] at q ⊢
  omega
theorem c_readOne {C : Nat → Nat} {L a k d : Nat} (hC : ∀ i, L ≤ i → C i = 999) {σ : zS} (ht : TC C L a σ) (h10 : σ 10 3 = nI k) (hk : a < L → k < 20) {Q : Int32 → zS → Prop}
    (h1 : (pAct C a).1 = true → ∀ σ', Fr (pRo k) σ σ' → TC C L (pAct C a).2.1 σ' → σ' 10 3 = nI (k + 1) → ActC C a k σ' → Q 1 σ')
    (h0 : (pAct C a).1 = false → ∀ σ', Fr (pRo k) σ σ' → TC C L (pAct C a).2.1 σ' → Q 0 σ') : ZC (d + 5) 8 [.ref 10] σ Q := by
  have ne10 : ∀ k, k < 10 → ¬ (nI k = -1) := by decide
  have fin : ∀ (σ' : zS) w f m p, Fr p1w σ σ' → TC C L p σ' → k < 20 → (pAct C a) = (true, p, w, f, m) → Q 1 (zup (zup (zup (zup σ' 11 k (nI w)) 12 k (wf w f)) 13 k (nI m)) 10 3 (nI (k + 1))) := by
    intro σ' w f m p f' t' hk' e
    rw [e] at h1
    refine actC_put f' _ (fun fr => h1 rfl _ fr ?_ rfl ⟨?_, ?_, ?_⟩)
    · exact TC.fr t' (fun i => rfl) rfl t'.1 t'.2.2.2.2.2
    · rw [e]; simp only [zup_eq, zput_app, Nat.reduceEqDiff, ↓reduceIte, upd_eq]
    · rw [e]; simp only [zup_eq, zput_app, Nat.reduceEqDiff, ↓reduceIte, upd_eq]
    · rw [e]; simp only [zup_eq, zput_app, Nat.reduceEqDiff, ↓reduceIte, upd_eq]
  have bad : ∀ (σ' : zS) p, Fr p1w σ σ' → TC C L p σ' → (pAct C a) = (false, p, 0, 0, 0) → Q 0 σ' := by
    intro σ' p f' t' e
    rw [e] at h0
    refine h0 rfl σ' (Fr.mono f' (fun o i q => ?_)) t'
    unfold pRo at q
    unfold p1w
    rw [decide_eq_false_iff_not] at q ⊢
    omega
  have hi : ∀ i, C i ≠ 999 → i < L := fun i h => inL hC h
  have s12 : ∀ {σ : zS} {v : Int32}, Fr p1w σ (zup σ 1 2 v) := Fr.up (by decide)
  have h10' : ∀ {σ' : zS}, Fr p1w σ σ' → σ' 10 3 = nI k := fun f => (f 10 3 (by decide)).trans h10
  refine k_8_0 ?_
  refine c_peek ht (fun x hx => ?_)
  have e : ∀ c, c < 128 → ((x = nI c) = (C a = c)) := fun c hc => chR_eq hx hc
  by_cases hm : C a = 109
  · have l0 := hi a (by omega)
    have t1 := TC.to ht (b := a + 1) l0
    have hx2 : x = nI 109 := by rw [← hm]; exact ch_dig hx (by omega)
    rw [hx2, if_pos (show nI 109 = 109 from rfl), c_step ht]
    refine k_9_0 ?_
    have ek : ∀ (b : Int32) σ', (b = 0 ∨ b = 1) → Q b σ' → (if b &&& 1 = b then Q b σ' else False) := fun b σ' hb hq => by
      rcases hb with rfl | rfl
      · rw [if_pos (by decide)]; exact hq
      · rw [if_pos (by decide)]; exact hq
    refine c_digit t1 (lo := 0) (by decide) (fun q => ?_) (fun q => ?_)
    · have l1 := hi (a + 1) (by omega)
      have t2 := TC.to t1 (b := a + 2) l1
      rw [if_neg (ne10 _ (by omega))]
      refine c_digit t2 (lo := 0) (by decide) (fun q2 => ?_) (fun q2 => ?_)
      · have l2 := hi (a + 2) (by omega)
        have t3 := TC.to t2 (b := a + 3) l2
        rw [if_neg (ne10 _ (by omega)), show (10 : Int32) * nI (C (a + 1) - 48) = nI (10 * (C (a + 1) - 48)) from zm10 _, nI_add, c_actPut (hk l0) (h10' (Fr.tr s12 (Fr.tr s12 s12)))]
        refine ek 1 _ (Or.inr rfl) (ek 1 _ (Or.inr rfl) ?_)
        refine fin _ 109 0 _ (a + 3) (Fr.tr s12 (Fr.tr s12 s12)) t3 (hk l0) ?_
        unfold pAct
        rw [if_pos hm, if_pos (by omega), if_pos (by omega)]
      · rw [if_pos rfl, c_actPut (hk l0) (h10' (Fr.tr s12 s12))]
        refine ek 1 _ (Or.inr rfl) (ek 1 _ (Or.inr rfl) ?_)
        refine fin _ 109 0 _ (a + 2) (Fr.tr s12 s12) t2 (hk l0) ?_
        unfold pAct
        rw [if_pos hm, if_pos (by omega), if_neg (by omega)]
    · rw [if_pos rfl]
      refine ek 0 _ (Or.inl rfl) ?_
      refine bad _ (a + 1) s12 t1 ?_
      unfold pAct
      rw [if_pos hm, if_neg (by omega)]
  · rw [if_neg (show ¬ (x = 109) from fun q => hm ((e 109 (by decide)).mp q))]
    -- a sign with a letter
    have let3 : ∀ w, (w = 121 ∨ w = 102 ∨ w = 97) → C a = w → ZC (d + 4) 65 [.ref 1] σ (fun _ s7 => ZC (d + 4) 68 [.ref 1, .int 0] s7 (fun v10 s9 => if v10 = -1 then Q 0 s9 else if x = 116 then ZC (d + 4) 67 [.ref 1, .int 0] s9 (fun v12 s11 => if v12 = -1 then Q 0 s11 else ZC (d + 4) 10 [.ref 10, .int x, .int v10, .int v12] s11 (fun v14 s13 => if v14 = 0 then Q 0 s13 else Q 1 s13)) else ZC (d + 4) 10 [.ref 10, .int x, .int v10, .int 0] s9 (fun v16 s15 => if v16 = 0 then Q 0 s15 else Q 1 s15))) := by
      intro w hw hca
      have l0 := hi a (by omega)
      have t1 := TC.to ht (b := a + 1) l0
      have hx2 : x = nI w := by rw [← hca]; exact ch_dig hx (by omega)
      have hn : ¬ (x = 116) := fun q => by have := (e 116 (by decide)).mp q; omega
      rw [c_step ht]
      refine c_letter t1 (lo := 0) (by decide) (fun q => ?_) (fun q => ?_)
      · have l1 := hi (a + 1) (by omega)
        have t2 := TC.to t1 (b := a + 2) l1
        rw [if_neg (ne10 _ (by omega)), if_neg hn, c_actPut (hk l0) (h10' (Fr.tr s12 s12)), if_neg (by decide), hx2]
        have h := fin _ w (C (a + 1) - 97) 0 (a + 2) (Fr.tr s12 s12) t2 (hk l0) (by
          unfold pAct
          rw [if_neg hm, if_pos (by omega), if_pos (by omega), if_neg (by omega), hca])
        rw [show wf w (C (a + 1) - 97) = nI (C (a + 1) - 97) from if_neg (by omega)] at h
        exact h
      · rw [if_pos rfl]
        refine bad _ (a + 1) s12 t1 ?_
        unfold pAct
        rw [if_neg hm, if_pos (by omega), if_neg (by omega)]
    by_cases h121 : C a = 121
    · rw [if_pos (show x = 121 from (e 121 (by decide)).mpr h121)]
      exact let3 121 (Or.inl rfl) h121
    rw [if_neg (show ¬ (x = 121) from fun q => h121 ((e 121 (by decide)).mp q))]
    by_cases h102 : C a = 102
    · rw [if_pos (show x = 102 from (e 102 (by decide)).mpr h102)]
      exact let3 102 (Or.inr (Or.inl rfl)) h102
    rw [if_neg (show ¬ (x = 102) from fun q => h102 ((e 102 (by decide)).mp q))]
    by_cases h97 : C a = 97
    · rw [if_pos (show x = 97 from (e 97 (by decide)).mpr h97)]
      exact let3 97 (Or.inr (Or.inr rfl)) h97
    rw [if_neg (show ¬ (x = 97) from fun q => h97 ((e 97 (by decide)).mp q))]
    by_cases h116 : C a = 116
    · have l0 := hi a (by omega)
      have t1 := TC.to ht (b := a + 1) l0
      have hx2 : x = nI 116 := by rw [← h116]; exact ch_dig hx (by omega)
      rw [hx2, if_pos (show nI 116 = 116 from rfl), c_step ht]
      refine c_letter t1 (lo := 0) (by decide) (fun q => ?_) (fun q => ?_)
      · have l1 := hi (a + 1) (by omega)
        have t2 := TC.to t1 (b := a + 2) l1
        rw [if_neg (ne10 _ (by omega)), if_pos (show nI 116 = 116 from rfl)]
        refine c_digit t2 (lo := 0) (by decide) (fun q2 => ?_) (fun q2 => ?_)
        · have l2 := hi (a + 2) (by omega)
          have t3 := TC.to t2 (b := a + 3) l2
          rw [if_neg (ne10 _ (by omega)), c_actPut (hk l0) (h10' (Fr.tr s12 (Fr.tr s12 s12))), if_neg (by decide)]
          have h := fin _ 116 (C (a + 1) - 97) (C (a + 2) - 48) (a + 3) (Fr.tr s12 (Fr.tr s12 s12)) t3 (hk l0) (by
            unfold pAct
            rw [if_neg hm, if_pos (by omega), if_pos (by omega), if_pos h116, if_pos (by omega)])
          rw [show wf 116 (C (a + 1) - 97) = nI (C (a + 1) - 97) from if_neg (by decide)] at h
          exact h
        · rw [if_pos rfl]
          refine bad _ (a + 2) (Fr.tr s12 s12) t2 ?_
          unfold pAct
          rw [if_neg hm, if_pos (by omega), if_pos (by omega), if_pos h116, if_neg (by omega)]
      · rw [if_pos rfl]
        refine bad _ (a + 1) s12 t1 ?_
        unfold pAct
        rw [if_neg hm, if_pos (by omega), if_neg (by omega)]
    · rw [if_neg (show ¬ (x = 116) from fun q => h116 ((e 116 (by decide)).mp q))]
      refine bad σ a Fr.rf ht ?_
      unfold pAct
      rw [if_neg hm, if_neg (by omega)]
