/-! the wind -/
def dWd (o i : Nat) : Bool := (scr o i || dText o i) || dWind o i
theorem Inv.winded {b W' : Nat} {σ σ' : zS} (h : Inv b σ) (hf : Fr dWd σ σ') (hw : pWind W' σ') (hc : pText σ') : Inv b σ' := by
  obtain ⟨F, l, W, h1, h2, h3, h4, h5, h6, h7, h8, h9, h10, h11, h12⟩ := h
  have fin : ∀ dep : Nat → Nat → Bool, (∀ o i, dep o i = true → dWd o i = false) → AG dep σ σ' := fun dep q => AG.of hf q
  refine ⟨F, l, W', pWall.ag (fin dWall ?_) h1, pRow.ag (fin dRow ?_) h2, pRule.ag (fin dRule ?_) h3, hw, hc, pJd.ag (fin dJd ?_) h6, pTold.ag (fin dTold ?_) h7, pCrew.ag (fin dCrew ?_) h8, pSeen.ag (fin dSeen ?_) h9, pPast.ag (fin dPast ?_) h10, pKept.ag (fin dKept ?_) h11, (hf 214 7 (by decide)).trans h12⟩
  all_goals
    intro o i q
    simp only [dWall, dRow, dRule, dWind, dText, dJd, dCrew, dSeen, dPast, dKept, dWd, scr, dTold, decide_eq_true_eq, decide_eq_false_iff_not, Bool.or_eq_false_iff] at q ⊢
    omega
theorem Inv.hwind {b : Nat} {σ : zS} (h : Inv b σ) : ∃ W, pWind W σ := by
  obtain ⟨F, l, W, h1, h2, h3, h4, h5⟩ := h
  exact ⟨W, h4⟩
theorem TX.text0 {C : Nat → Nat} {T : Nat} {σ σ' : zS} (h : TX C T σ) (h1 : σ' 1 1 = 0) (h9 : σ' 214 9 = 0) (h2 : ∀ i, σ' 2 i = σ 2 i) (h219 : ∀ i, σ' 219 i = σ 219 i) : pText σ' :=
  ⟨0, by decide, h1, h9, fun i hi => ⟨C i, by rw [h2]; exact (h.2.2.2 i hi).1, by rw [h219]; exact (h.2.2.2 i hi).2⟩⟩
def dig (n : Nat) : Prop := 48 ≤ n ∧ n ≤ 57
def pWc (o i : Nat) : Bool := decide ((o = 1 ∧ 1 ≤ i ∧ i ≤ 4) ∨ (o = 3 ∧ i = 5) ∨ o = 7)
def pWc0 (o i : Nat) : Bool := decide (o = 1 ∧ 1 ≤ i ∧ i ≤ 4)
def pWr0 (o i : Nat) : Bool := decide (o = 214 ∧ (i = 12 ∨ i = 9))
def pWr (o i : Nat) : Bool := decide ((o = 214 ∧ (i = 12 ∨ i = 9 ∨ i = 6)) ∨ o = 218)
theorem c_takeWind {d k : Nat} {C : Nat → Nat} {σ : zS} (hk : k ≤ 40) (hc : ∀ i, i < k → σ 2 i = nI (C i) ∧ dig (C i)) {Q : Int32 → zS → Prop} (hq : ∀ σ', Fr (fun o i => decide ((o = 3 ∧ i = 5) ∨ o = 7)) σ σ' → σ' 3 5 = nI k → (∀ i, i < k → σ' 7 i = nI (C i - 48)) → Q 0 σ') : ZC (d + 2) 41 [.ref 3, .ref 2, .int (nI k)] σ Q := by
  refine k_41_0 ?_
  rw [s_mn, s_mn, show (if Int32.ofNat 80 < 40 then Int32.ofNat 80 else 40) = nI 40 from by decide, if_neg (nI_nlt (a := 40) hk (by decide))]
  have hloop := z_for (F := k) (P := fun j => ∀ σ1, Fr (fun o i => decide ((o = 3 ∧ i = 5) ∨ o = 7)) σ σ1 → σ1 3 5 = nI k → (∀ i, i < j → σ1 7 i = nI (C i - 48)) → Z (d + 1) 41 Q 17 [.ref 3, .ref 2, .int (nI k), .int (nI j)] [] σ1) (fun j hj ih => ?_) ?_
  · exact hloop _ (Fr.up (by decide)) rfl (fun i hi => absurd hi (Nat.not_lt_zero i))
  · intro σ1 f1 e1 e2
    refine k_41_17 ?_
    obtain ⟨c1, c2, c3⟩ := hc j hj
    rw [e1, if_pos (nI_lt hj (by omega)), if_pos (zin_nI (by omega) (by decide)), if_pos (zin_nI (by omega) (by decide)), zcl (by omega), show σ1 2 j = σ 2 j from f1 2 j (by simp), c1, show nI (C j) - (48 : Int32) = nI (C j - 48) from subL (k := 48) c2, show nI j + (1 : Int32) = nI (j + 1) from nI_add j 1]
    refine ih _ (Fr.tr f1 (Fr.up (by simp))) ?_ (fun i hi => ?_)
    · simp (disch := omega) only [zup_eq, zput_app, zput_twice, upd_same, nI_1, za2, zA2, zm2, za3, zA3, zm3, za4, zA4, zm4, za9, zA9, zm9, za10, zA10, zm10, za18, zA18, zm18, za27, zA27, zm27, za36, zA36, zm36, za48, zA48, zm48, za288, zA288, zm288, zcl, zinT, upd_ne, upd_eq, zlt, znlt, zl2, zn2_, zl3, zn3_, zl5, zn5_, zl9, zn9_, zl10, zn10_, zl16, zn16_, zl20, zn20_, zl40, zn40_, zl60, zn60_, zl76, zn76_, zl80, zn80_, zl288, zn288_, zl300, zn300_, zneg, Nat.reduceEqDiff, Nat.reduceAdd, ↓reduceIte]
      exact e1
    · simp only [zup_eq, zput_app, ↓reduceIte]
      by_cases q : i = j
      · rw [q, upd_eq]
      · rw [upd_ne q]; exact e2 i (by omega)
  · intro σ1 f1 e1 e2
    refine k_41_17 ?_
    rw [e1, if_neg (nI_nlt (Nat.le_refl _) (by omega))]
    exact hq σ1 f1 e1 e2
def wBad (C : Nat → Nat) (T k : Nat) : Prop := (∀ i, i < k → dig (C i)) ∧ k < T ∧ (k = 40 ∨ (k < 40 ∧ ¬ dig (C k)))
def wOk (C : Nat → Nat) (T : Nat) : Prop := T ≤ 40 ∧ ∀ i, i < T → dig (C i)
theorem c_wind {d T : Nat} {C : Nat → Nat} {σ : zS} (hx : TX C T σ) {Q : Int32 → zS → Prop}
    (hok : wOk C T → ∀ σ', Fr pWc σ σ' → σ' 1 1 = 0 → σ' 3 5 = nI T → (∀ i, i < T → σ' 7 i = nI (C i - 48)) → Q (nI T) σ')
    (hbad : ∀ k, wBad C T k → ∀ σ', Fr pWc0 σ σ' → σ' 1 1 = 0 → Q (-1 - nI k) σ') : ZC (d + 4) 85 [.ref 0] σ Q := by
  have h80 := hx.1
  refine k_85_0 ?_
  refine c_open (m := 40) hx (by decide) (fun σ0 f0 t0 m0 => ?_)
  -- behind the digits
  have fin : ∀ k σ1, Fr pOp σ σ1 → TC (cutC C (min T 40)) (min T 40) k σ1 → σ1 1 4 = b2i (decide (40 < T)) → (∀ i, i < k → dig (C i)) → k ≤ min T 40 → (k = 40 ∨ (k < 40 ∧ ¬ dig (cutC C (min T 40) k))) → ZC (d + 3) 62 [.ref 1, .int 1] σ1 (fun v s3 => if v = 0 then ZC (d + 3) 63 [.ref 1] s3 (fun v6 s5 => Q v6 s5) else ZC (d + 3) 41 [.ref 3, .ref 2, .int (nI k)] s3 (fun _ s7 => Q (nI k) s7)) := by
    intro k σ1 f1 t1 m1 hd hk hs
    rw [show (Value.int 1) = .int (b2i true) from rfl, c_close t1 m1, Bool.true_and]
    have f20 : Fr pWc0 σ (zup σ1 1 1 0) := Fr.tr (Fr.mono f1 (fun o i q => by
      unfold pOp
      unfold pWc0 at q
      rw [decide_eq_false_iff_not] at q ⊢
      omega)) (Fr.up (by decide))
    have f2 : Fr pWc σ (zup σ1 1 1 0) := Fr.mono f20 (fun o i q => by
      unfold pWc0
      unfold pWc at q
      rw [decide_eq_false_iff_not] at q ⊢
      omega)
    by_cases hg : k = min T 40 ∧ T ≤ 40
    · have hkT : k = T := by omega
      subst hkT
      rw [decide_eq_true hg.1, decide_eq_false (show ¬ 40 < k by omega), if_neg (by decide)]
      refine c_takeWind (C := C) hg.2 (fun i hi => ⟨?_, hd i hi⟩) (fun σ3 f3 e3 e7 => ?_)
      · have := hd i hi
        exact ch_dig (by
          have := (hx.2.2.2 i (by omega)).1
          rw [← show (zup σ1 1 1 0) 2 i = σ 2 i from f2 2 i (by simp [pWc])] at this
          exact this) (by unfold dig at this; omega)
      · exact hok ⟨hg.2, hd⟩ σ3 (Fr.tr f2 (Fr.mono f3 (fun o i q => by
          unfold pWc at q
          rw [decide_eq_false_iff_not] at q ⊢
          omega))) (f3 1 1 (by decide)) e3 e7
    · have e : (decide (k = min T 40) && !decide (40 < T)) = false := by
        by_cases q1 : k = min T 40
        · rw [decide_eq_true q1, decide_eq_true (show 40 < T by omega)]; rfl
        · rw [decide_eq_false q1]; rfl
      rw [e, if_pos (by decide), c_fault (a := k) (show (zup σ1 1 1 0) 1 2 = nI k from t1.1)]
      refine hbad k ⟨hd, ?_, ?_⟩ _ f20 rfl
      · rcases hs with q | ⟨q1, q2⟩
        · omega
        · by_cases q3 : k = min T 40
          · omega
          · omega
      · rcases hs with q | ⟨q1, q2⟩
        · exact Or.inl q
        · by_cases q3 : k < min T 40
          · rw [cutC_lt q3] at q2
            exact Or.inr ⟨q1, q2⟩
          · omega
  have hloop := z_for (F := 40) (P := fun k => ∀ σ1, Fr pOp σ σ1 → TC (cutC C (min T 40)) (min T 40) k σ1 → σ1 1 4 = b2i (decide (40 < T)) → (∀ i, i < k → dig (C i)) → k ≤ min T 40 → Z (d + 3) 85 Q 11 [.ref 0, .int (nI k)] [] σ1) (fun k hk ih => ?_) ?_
  · exact hloop σ0 f0 t0 m0 (fun i hi => absurd hi (Nat.not_lt_zero i)) (Nat.zero_le _)
  · intro σ1 f1 t1 m1 hd hkL
    refine k_85_11 ?_
    rw [if_pos (show nI k < 40 from nI_lt (b := 40) hk (by decide))]
    refine c_digit t1 (lo := 0) (by decide) (fun hr => ?_) (fun hr => ?_)
    · have hne : ¬ (nI (cutC C (min T 40) k - 48) = -1) := by
        have : ∀ k, k < 10 → ¬ (nI k = -1) := by decide
        exact this _ (by omega)
      have hkl : k < min T 40 := by
        rcases Nat.lt_or_ge k (min T 40) with q | q
        · exact q
        · rw [cutC_ge C _ k q] at hr; omega
      rw [if_neg hne, show nI k + (1 : Int32) = nI (k + 1) from nI_add k 1]
      rw [cutC_lt hkl] at hr
      refine ih _ (Fr.tr f1 (Fr.up (by decide))) (TC.to t1 hkl) m1 (fun i hi => ?_) hkl
      by_cases q : i = k
      · rw [q]; exact ⟨by omega, by omega⟩
      · exact hd i (by omega)
    · rw [if_pos rfl]
      exact fin k σ1 f1 t1 m1 hd hkL (Or.inr ⟨hk, fun q => hr ⟨by unfold dig at q; omega, q.2⟩⟩)
  · intro σ1 f1 t1 m1 hd hkL
    refine k_85_11 ?_
    rw [if_neg (show ¬ (nI 40 < 40) by decide)]
    exact fin 40 σ1 f1 t1 m1 hd hkL (Or.inl rfl)
theorem r_windLoop {d T k : Nat} {C : Nat → Nat} {σ : zS} (hx : TXr C T σ) (hk : k ≤ T) (h40 : k ≤ 40) (hd : ∀ i, i < k → dig (C i)) {Q : Int32 → zS → Prop}
    (hq : Z (d + 1) 192 Q 17 [.ref 214, .int (nI T), .int (nI k)] [] (zup (zup σ 214 12 0) 214 9 0)) : ZC (d + 2) 192 [.ref 214] σ Q := by
  have h80 := hx.1
  refine k_192_0 ?_
  rw [hx.2.1]
  refine z_for (F := k) (P := fun j => Z (d + 1) 192 Q 17 [.ref 214, .int (nI T), .int (nI j)] [] (zup (zup σ 214 12 0) 214 9 0)) (fun j hj ih => ?_) hq
  refine k_192_17 ?_
  have dj := hd j hj
  rw [if_pos (nI_lt (by omega) (by omega)), if_neg (show ¬ (nI j = 40) from fun q => by have := (nI_eq (a := j) (b := 40) (by omega) (by decide)).mp q; omega), if_pos (zin_nI (by omega) (by decide)), zcl (by omega), s_in, show (zup (zup σ 214 12 0) 214 9 0) 219 j = σ 219 j from rfl]
  rw [show (if σ 219 j < 48 then (0 : Int32) else if 57 < σ 219 j then 0 else 1) = b2i (decide (48 ≤ C j ∧ C j ≤ 57)) from in_rng (hx.2.2 j (by omega)) (lo := 48) (hi := 57) (by decide) (by decide), decide_eq_true (show 48 ≤ C j ∧ C j ≤ 57 from dj), if_neg (by decide), show nI j + (1 : Int32) = nI (j + 1) from nI_add j 1]
  exact ih
theorem r_wind0 {d T k : Nat} {C : Nat → Nat} {σ : zS} (hx : TXr C T σ) (hb : wBad C T k) {Q : Int32 → zS → Prop} (hq : ∀ σ', Fr pWr0 σ σ' → σ' 214 9 = 0 → Q (-1 - nI k) σ') : ZC (d + 2) 192 [.ref 214] σ Q := by
  have h80 := hx.1
  obtain ⟨hd, hkT, hs⟩ := hb
  refine r_windLoop hx (Nat.le_of_lt hkT) (by omega) hd ?_
  refine k_192_17 ?_
  rw [if_pos (nI_lt (by omega) (by omega))]
  have f : Fr pWr0 σ (zup (zup σ 214 12 0) 214 9 0) := Fr.tr (Fr.up (by decide)) (Fr.up (by decide))
  rcases hs with rfl | ⟨h40, hn⟩
  · rw [if_pos (by decide)]
    exact hq _ f rfl
  · rw [if_neg (show ¬ (nI k = 40) from fun q => by have := (nI_eq (a := k) (b := 40) (by omega) (by decide)).mp q; omega), if_pos (zin_nI (by omega) (by decide)), zcl (by omega), s_in, show (zup (zup σ 214 12 0) 214 9 0) 219 k = σ 219 k from rfl]
    rw [show (if σ 219 k < 48 then (0 : Int32) else if 57 < σ 219 k then 0 else 1) = b2i (decide (48 ≤ C k ∧ C k ≤ 57)) from in_rng (hx.2.2 k (by omega)) (lo := 48) (hi := 57) (by decide) (by decide), decide_eq_false (show ¬ (48 ≤ C k ∧ C k ≤ 57) from hn), if_pos (by decide)]
    exact hq _ f rfl
theorem r_wind1 {d T : Nat} {C : Nat → Nat} {σ : zS} (hx : TXr C T σ) (hb : wOk C T) {Q : Int32 → zS → Prop} (hq : ∀ σ', Fr pWr σ σ' → σ' 214 9 = 0 → σ' 214 6 = nI T → (∀ i, i < T → σ' 218 i = nI (C i - 48)) → Q (nI T) σ') : ZC (d + 2) 192 [.ref 214] σ Q := by
  have h80 := hx.1
  obtain ⟨h40, hd⟩ := hb
  refine r_windLoop hx (Nat.le_refl T) h40 hd ?_
  refine k_192_17 ?_
  rw [if_neg (nI_nlt (Nat.le_refl _) (by omega))]
  have hloop := z_for (F := T) (P := fun j => ∀ σ1, Fr pWr σ σ1 → σ1 214 9 = 0 → (∀ i, i < j → σ1 218 i = nI (C i - 48)) → Z (d + 1) 192 Q 56 [.ref 214, .int (nI T), .int (nI j)] [] σ1) (fun j hj ih => ?_) ?_
  · exact hloop _ (Fr.tr (Fr.up (by decide)) (Fr.up (by decide))) rfl (fun i hi => absurd hi (Nat.not_lt_zero i))
  · intro σ1 f1 e9 e8
    refine k_192_56 ?_
    have dj := hd j hj
    rw [if_pos (nI_lt hj (by omega)), if_pos (zin_nI (by omega) (by decide)), if_pos (zin_nI (by omega) (by decide)), zcl (by omega), show σ1 219 j = σ 219 j from f1 219 j (by simp [pWr]), ch_dig (hx.2.2 j (by omega)) (by unfold dig at dj; omega), show nI (C j) - (48 : Int32) = nI (C j - 48) from subL (k := 48) dj.1, show nI j + (1 : Int32) = nI (j + 1) from nI_add j 1]
    refine ih _ (Fr.tr f1 (Fr.up (by simp [pWr]))) e9 (fun i hi => ?_)
    simp only [zup_eq, zput_app, ↓reduceIte]
    by_cases q : i = j
    · rw [q, upd_eq]
    · rw [upd_ne q]; exact e8 i (by omega)
  · intro σ1 f1 e9 e8
    refine k_192_56 ?_
    rw [if_neg (nI_nlt (Nat.le_refl _) (by omega))]
    exact hq _ (Fr.tr f1 (Fr.up (by decide))) e9 rfl e8
theorem call_wind {d e b : Nat} {σ : zS} (h : Inv b σ) : Both (d + 4) 85 [.ref 0] (e + 2) 192 [.ref 214] b σ := by
  obtain ⟨C, T, hx⟩ := h.tx
  have fc : ∀ {σ1 : zS}, Fr pWc σ σ1 → Fr dWd σ σ1 := fun f => Fr.mono f (fun o i q => by
    unfold dWd scr dText dWind at q
    unfold pWc
    rw [Bool.or_eq_false_iff, Bool.or_eq_false_iff, decide_eq_false_iff_not, decide_eq_false_iff_not, decide_eq_false_iff_not] at q
    rw [decide_eq_false_iff_not]
    omega)
  have fr : ∀ {σ1 σ2 : zS}, Fr pWr σ1 σ2 → Fr dWd σ1 σ2 := fun f => Fr.mono f (fun o i q => by
    unfold dWd scr dText dWind at q
    unfold pWr
    rw [Bool.or_eq_false_iff, Bool.or_eq_false_iff, decide_eq_false_iff_not, decide_eq_false_iff_not, decide_eq_false_iff_not] at q
    rw [decide_eq_false_iff_not]
    omega)
  have lo : ∀ {σ1 σ2 : zS}, Fr pWr σ1 σ2 → ∀ o i, o < 214 → σ2 o i = σ1 o i := fun f o i q => f o i (decide_eq_false (by omega))
  have hi : ∀ {σ1 : zS}, Fr pWc σ σ1 → ∀ o i, 7 < o → σ1 o i = σ o i := fun f o i q => f o i (decide_eq_false (by omega))
  have tx : ∀ {σ1 : zS}, Fr pWc σ σ1 → TXr C T σ1 := fun f => hx.r (hi f 214 9 (by decide)) (fun i => hi f 219 i (by decide))
  refine c_wind hx (fun ok σ1 f1 e1 e35 e7 => ?_) (fun k hb σ1 f1 e1 => ?_)
  · refine r_wind1 (tx f1) ok (fun σ2 f2 e9 e6 e8 => ⟨rfl, Inv.winded (W' := T) h (Fr.tr (fc f1) (fr f2)) ⟨ok.1, (lo f2 3 5 (by decide)).trans e35, e6, fun i q => ?_⟩ (TX.text0 hx ((lo f2 1 1 (by decide)).trans e1) e9 (fun i => (lo f2 2 i (by decide)).trans (f1 2 i (by simp [pWc]))) (fun i => (f2 219 i (by simp [pWr])).trans (hi f1 219 i (by decide))))⟩)
    rw [lo f2 7 i (by decide), e7 i q, e8 i q]
  · have hi0 : ∀ o i, 1 < o → σ1 o i = σ o i := fun o i q => f1 o i (decide_eq_false (by omega))
    refine r_wind0 (hx.r (hi0 214 9 (by decide)) (fun i => hi0 219 i (by decide))) hb (fun σ2 f2 e9 => ⟨rfl, ?_⟩)
    have l0 : ∀ o i, o ≠ 214 → σ2 o i = σ1 o i := fun o i q => f2 o i (decide_eq_false (by omega))
    refine Inv.texted h (Fr.tr (Fr.mono f1 ?_) (Fr.mono f2 ?_)) (TX.text0 hx ((l0 1 1 (by decide)).trans e1) e9 (fun i => (l0 2 i (by decide)).trans (hi0 2 i (by decide))) (fun i => (l0 219 i (by decide)).trans (hi0 219 i (by decide))))
    · intro o i q
      unfold dTs scr dText at q
      unfold pWc0
      rw [Bool.or_eq_false_iff, decide_eq_false_iff_not, decide_eq_false_iff_not] at q
      rw [decide_eq_false_iff_not]
      omega
    · intro o i q
      unfold dTs scr dText at q
      unfold pWr0
      rw [Bool.or_eq_false_iff, decide_eq_false_iff_not, decide_eq_false_iff_not] at q
      rw [decide_eq_false_iff_not]
      omega
