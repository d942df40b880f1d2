/-! AN HOUR is read, by both -/
def pHq (o i : Nat) : Bool := decide ((o = 214 ∧ (i = 9 ∨ (12 ≤ i ∧ i ≤ 17))) ∨ o = 225)
def pH2 (o i : Nat) : Bool := decide ((o = 214 ∧ 12 ≤ i ∧ i ≤ 17) ∨ o = 225)
theorem fr_pH2 {σ σ' : zS} (h : Fr pH2 σ σ') : Fr pHq σ σ' := Fr.mono h (fun o i q => by
  unfold pHq at q
  unfold pH2
  rw [decide_eq_false_iff_not] at q ⊢
  omega)
theorem fr_p25 {k : Nat} {σ σ' : zS} (h : Fr (p25 k) σ σ') : Fr pH2 σ σ' := Fr.mono h (fun o i q => by
  unfold pH2 at q
  unfold p25
  rw [decide_eq_false_iff_not] at q ⊢
  omega)
def Acs (C : Nat → Nat) (k : Nat) (σ : zS) : Prop := ∀ j, j < k → ActR C (psA C j) j σ
theorem Acs.p25 {C : Nat → Nat} {k : Nat} {σ σ' : zS} (h : Acs C k σ) (hf : Fr (p25 k) σ σ') : Acs C k σ' := fun j hj => by
  obtain ⟨g1, g2, g3⟩ := h j hj
  exact ⟨(hf 225 (3 * j) (decide_eq_false (by omega))).trans g1, (hf 225 (3 * j + 1) (decide_eq_false (by omega))).trans g2, fun q => (hf 225 (3 * j + 2) (decide_eq_false (by omega))).trans (g3 q)⟩
theorem Acs.next {C : Nat → Nat} {k : Nat} {σ : zS} (h : Acs C k σ) (h0 : ActR C (psA C k) k σ) : Acs C (k + 1) σ := fun j hj => by
  by_cases q : j = k
  · rw [q]; exact h0
  · exact h j (by omega)
theorem Acs.ag {C : Nat → Nat} {k : Nat} {σ σ' : zS} (h : Acs C k σ) (hf : ∀ i, σ' 225 i = σ 225 i) : Acs C k σ' := fun j hj => by
  obtain ⟨g1, g2, g3⟩ := h j hj
  exact ⟨(hf _).trans g1, (hf _).trans g2, fun q => (hf _).trans (g3 q)⟩
theorem r_hourBad {d n p L : Nat} {σ : zS} {w : Value} (hB : RB L p σ) {Q : Int32 → zS → Prop} (hq : Q (-1 - nI p) σ) : Z (d + 3) 219 Q 39 [.ref 214, .int (nI n), .int 0, w] [] σ := by
  refine k_219_39 ?_
  rw [if_pos rfl]
  by_cases h : σ 214 16 < σ 214 14
  · rw [if_pos h, r_faultB hB, r_fine0 hB, if_pos rfl, hB.1]; exact hq
  · rw [if_neg h, r_fine0 hB, if_pos rfl, hB.1]; exact hq
theorem r_hourTo {C : Nat → Nat} {T k d : Nat} {σ : zS} (hk : k ≤ 60) (hg : GpA (cutC C (min T 60)) k) (hR : RT C T 60 σ) (hF : RF 0 σ) {Q : Int32 → zS → Prop}
    (hq : ∀ σ' w, Fr pH2 σ σ' → RF (psA (cutC C (min T 60)) k) σ' → RT C T 60 σ' → Acs (cutC C (min T 60)) k σ' → Z (d + 4) 219 Q 39 [.ref 214, .int (nI k), .int 1, w] [] σ') : ∀ w, Z (d + 4) 219 Q 39 [.ref 214, .int 0, .int 1, w] [] σ := by
  have hC : ∀ i, min T 60 ≤ i → cutC C (min T 60) i = 999 := cutC_ge C _
  have hloop := z_for (F := k) (P := fun j => ∀ σ1 w, Fr pH2 σ σ1 → RF (psA (cutC C (min T 60)) j) σ1 → RT C T 60 σ1 → Acs (cutC C (min T 60)) j σ1 → Z (d + 4) 219 Q 39 [.ref 214, .int (nI j), .int 1, w] [] σ1) (fun j hj ih => ?_) hq
  · exact fun w => hloop σ w Fr.rf hF hR (fun j hj => absurd hj (Nat.not_lt_zero j))
  · intro σ1 w f1 r1 t1 c1
    obtain ⟨g2, g3⟩ := hg j hj
    have hle := (psA_le (L := min T 60) hC j (fun i hi => hg i (by omega))).1
    refine k_219_39 ?_
    rw [if_neg (by decide), r_fine1 r1, if_neg (by decide), show (3 : Int32) * nI j = nI (3 * j) from zm3 j]
    have hl := inL (L := min T 60) hC (a := (pAct (cutC C (min T 60)) (psA (cutC C (min T 60)) j)).2.1) (by omega)
    refine r_readAct (C := C) (T := T) (m := 60) (by omega) t1 r1 hle (fun _ σ2 f2 k0 r2 => ?_) (fun q => by rw [g2] at q; cases q)
    refine r_passesF (t1.p25 f2).to r2 (by omega) (c := 59) (by decide) (fun _ => ?_) (fun q => absurd g3 q)
    rw [show nI j + (1 : Int32) = nI (j + 1) from nI_add j 1]
    refine ih _ _ (Fr.tr f1 (Fr.tr (fr_p25 f2) (Fr.up (by decide)))) (RF.to r2) ((t1.p25 f2).ag (fun i q1 q2 => ?_) (fun i => rfl)) ((c1.p25 f2).next k0)
    rw [zup_eq, zput_app, if_pos rfl, upd_ne (by omega)]
theorem r_hourBegin {C : Nat → Nat} {T d : Nat} {σ : zS} (hx : TXr C T σ) {Q : Int32 → zS → Prop}
    (hq : ∀ σ' x, Fr pHq σ σ' → σ' 214 9 = 0 → RT C T 60 σ' → RF 0 σ' → (T = 0 → x = 0) → (0 < T → x = 1) → Z (d + 4) 219 Q 39 [.ref 214, .int 0, .int x, .retAddr 0] [] σ') : ZC (d + 5) 219 [.ref 214] σ Q := by
  obtain ⟨h80, h9, hch⟩ := hx
  refine k_219_0 ?_
  rw [h9, show (Value.int 60) = .int (nI 60) from rfl]
  refine r_begin219 (m := 60) (fun σ0 f0 e13 e14 e15 rf0 => ?_)
  have f1 : Fr pHq σ (zup σ0 214 9 0) := Fr.tr (Fr.up (by decide)) (Fr.tr (Fr.mono f0 (fun o i q => by
    unfold pBe
    unfold pHq at q
    rw [decide_eq_false_iff_not] at q ⊢
    omega)) (Fr.up (by decide)))
  have hRT : RT C T 60 (zup σ0 214 9 0) := ⟨h80, by decide, e13, e14, e15, fun i hi => by
      rw [show (zup σ0 214 9 0) 219 i = σ 219 i from f1 219 i (by simp [pHq])]
      exact hch i (by omega)⟩
  rw [e14]
  by_cases hT : T = 0
  · rw [if_neg (show ¬ ((0 : Int32) < nI T) from nI_nlt (a := 0) (b := T) (by omega) (by omega))]
    exact hq _ 0 f1 rfl hRT ⟨rf0.1, rf0.2⟩ (fun _ => rfl) (fun q => absurd q (by omega))
  · rw [if_pos (show (0 : Int32) < nI T from nI_lt (a := 0) (by omega) (by omega))]
    exact hq _ 1 f1 rfl hRT ⟨rf0.1, rf0.2⟩ (fun q => absurd q hT) (fun _ => rfl)
theorem r_hourNo {C : Nat → Nat} {T k p d : Nat} {σ : zS} (hx : TXr C T σ) (hT : 0 < T) (ho : BadA (cutC C (min T 60)) (min T 60) k p ∨ (OkA (cutC C (min T 60)) (min T 60) k ∧ 60 < T ∧ p = min T 60)) {Q : Int32 → zS → Prop}
    (hq : ∀ σ', Fr pHq σ σ' → σ' 214 9 = 0 → Q (-1 - nI p) σ') : ZC (d + 5) 219 [.ref 214] σ Q := by
  have h80 := hx.1
  have hC : ∀ i, min T 60 ≤ i → cutC C (min T 60) i = 999 := cutC_ge C _
  have hg : GpA (cutC C (min T 60)) k := by rcases ho with ⟨q, -⟩ | ⟨⟨q, -⟩, -⟩ <;> exact q
  obtain ⟨hle, hk3⟩ := psA_le (L := min T 60) hC k hg
  refine r_hourBegin hx (fun σ1 x f1 z1 t1 r1 _ hx1 => ?_)
  rw [hx1 hT]
  refine r_hourTo (by omega) hg t1 r1 (fun σ2 w f2 r2 t2 c2 => ?_) _
  have f12 : Fr pHq σ σ2 := Fr.tr f1 (fr_pH2 f2)
  have z2 : σ2 214 9 = 0 := (f2 214 9 (by decide)).trans z1
  refine k_219_39 ?_
  rw [if_neg (by decide), r_fine1 r2, if_neg (by decide), show nI k + (1 : Int32) = nI (k + 1) from nI_add k 1, show (3 : Int32) * nI k = nI (3 * k) from zm3 k]
  have hle2 := pAct_le hC hle
  have bad : ∀ σ3 w L, Fr pH2 σ2 σ3 → RB L p σ3 → ZC (d + 4) 185 [.ref 214, .int 59] σ3 (fun v s17 => Z (d + 4) 219 Q 39 [.ref 214, .int (nI (k + 1)), .int v, w] [] s17) := fun σ3 w L f3 b3 => by
    rw [r_passesB b3]
    exact r_hourBad b3 (hq _ (Fr.tr f12 (fr_pH2 f3)) ((f3 214 9 (by decide)).trans z2))
  have stop : ∀ σ3 w, Fr pH2 σ2 σ3 → RF p σ3 → RT C T 60 σ3 → p ≤ min T 60 → cutC C (min T 60) p ≠ 59 → p < T → ZC (d + 4) 185 [.ref 214, .int 59] σ3 (fun v s17 => Z (d + 4) 219 Q 39 [.ref 214, .int (nI (k + 1)), .int v, w] [] s17) := fun σ3 w f3 r3 t3 hp hn hpT => by
    refine r_passesF t3.to r3 hp (c := 59) (by decide) (fun q => absurd q hn) (fun _ => ?_)
    refine k_219_39 ?_
    have hB : RB (min T 60) p (zup σ3 214 17 (nI p)) := RF.bad r3 hp (by omega)
    rw [if_pos rfl, r3.1, t3.2.2.2.1, if_pos (nI_lt hpT (by omega)), r_fault r3.2, r_fine0 hB, if_pos rfl, hB.1]
    exact hq _ (Fr.tr f12 (fr_pH2 (Fr.tr f3 (Fr.up (by decide))))) ((f3 214 9 (by decide)).trans z2)
  rcases ho with ⟨-, ⟨q2, q3⟩ | ⟨q2, q3, q4, q5⟩⟩ | ⟨⟨-, q2, q3⟩, q4, q5⟩
  · refine r_readAct (C := C) (T := T) (m := 60) (by omega) t2 r2 hle (fun q => by rw [q2] at q; cases q) (fun _ σ3 f3 b3 => ?_)
    exact bad σ3 _ _ (fr_p25 f3) (by rw [q3]; exact b3)
  · refine r_readAct (C := C) (T := T) (m := 60) (by omega) t2 r2 hle (fun _ σ3 f3 k0 r3 => ?_) (fun q => by rw [q2] at q; cases q)
    exact stop σ3 _ (fr_p25 f3) (by rw [q5]; exact r3) (t2.p25 f3) (by omega) (by rw [q5]; exact q4) (by omega)
  · refine r_readAct (C := C) (T := T) (m := 60) (by omega) t2 r2 hle (fun _ σ3 f3 k0 r3 => ?_) (fun q => by rw [q2] at q; cases q)
    rw [q3] at r3
    exact stop σ3 _ (fr_p25 f3) (by rw [q5]; exact r3) (t2.p25 f3) (by omega) (by rw [q5, hC _ (Nat.le_refl _)]; decide) (by omega)
def pHr (o i : Nat) : Bool := decide ((o = 214 ∧ (i = 9 ∨ (12 ≤ i ∧ i ≤ 17) ∨ i = 33)) ∨ o = 225 ∨ o = 224)
/-- how many ACTS a good text tells -/
def hrN (C : Nat → Nat) (T n : Nat) : Prop := (T = 0 ∧ n = 0) ∨ (0 < T ∧ T ≤ 60 ∧ ∃ k, n = k + 1 ∧ OkA (cutC C (min T 60)) (min T 60) k)
theorem hrN_gd {C : Nat → Nat} {T n : Nat} (h : hrN C T n) : n ≤ 20 ∧ hGd (cutC C (min T 60)) n := by
  have hC : ∀ i, min T 60 ≤ i → cutC C (min T 60) i = 999 := cutC_ge C _
  rcases h with ⟨-, rfl⟩ | ⟨h0, h60, k, rfl, hg, h1, h2⟩
  · exact ⟨by decide, fun i hi => absurd hi (Nat.not_lt_zero i)⟩
  · obtain ⟨p1, p2⟩ := psA_le (L := min T 60) hC k hg
    have h3 := (pAct_le hC p1).2.2 h1
    refine ⟨by omega, fun i hi => ?_⟩
    have hgi : GpA (cutC C (min T 60)) i := fun j hj => hg j (by omega)
    have hok : (pAct (cutC C (min T 60)) (psA (cutC C (min T 60)) i)).1 = true := by
      by_cases q : i = k
      · rw [q]; exact h1
      · exact (hg i (by omega)).1
    exact ((pAct_le hC (psA_le (L := min T 60) hC i hgi).1).2.2 hok).2
theorem r_hourYes {C : Nat → Nat} {T n d : Nat} {σ : zS} (hx : TXr C T σ) (ho : hrN C T n) {Q : Int32 → zS → Prop}
    (hq : ∀ σ' x, Fr pHr σ σ' → σ' 214 9 = 0 → (∀ i, i < 288 → σ' 224 i = σ 215 i) → σ' 214 33 = 0 → Acs (cutC C (min T 60)) n σ' → Z (d + 4) 219 Q 122 [.ref 214, .int (nI n), .int x, .int 0] [] σ') : ZC (d + 5) 219 [.ref 214] σ Q := by
  have h80 := hx.1
  have hC : ∀ i, min T 60 ≤ i → cutC C (min T 60) i = 999 := cutC_ge C _
  -- behind the reading
  have fin : ∀ σ2 (x : Int32) n', n' = n → Fr pHq σ σ2 → σ2 214 9 = 0 → Acs (cutC C (min T 60)) n σ2 → ZC (d + 4) 208 [.ref 215, .ref 224, .int 0] σ2 (fun _ s5 => Z (d + 4) 219 Q 122 [.ref 214, .int (nI n'), .int x, .int 0] [] (zup s5 214 33 0)) := fun σ2 x n' en f2 z2 c2 => by
    rw [en, show (Value.int 0) = .int (nI 0) from rfl, r_lay215_224 (x := 0) (by decide)]
    refine hq _ x (Fr.tr (Fr.mono f2 (fun o i q => ?_)) (Fr.tr (Fr.put (fun i q => by simp [pHr] at q)) (Fr.up (by decide)))) z2 (fun i hi => ?_) rfl (c2.ag (fun i => rfl))
    · unfold pHr at q
      unfold pHq
      rw [decide_eq_false_iff_not] at q ⊢
      omega
    · have := ly_in (σ2 215) (σ2 224) 0 288 i hi
      rw [Nat.zero_add] at this
      show ly (σ2 215) (σ2 224) 0 288 i = σ 215 i
      rw [this]; exact f2 215 i (by simp [pHq])
  refine r_hourBegin hx (fun σ1 x f1 z1 t1 r1 hx0 hx1 => ?_)
  rcases ho with ⟨hT, hn⟩ | ⟨hT, h60, k, hn, hg, q2, q3⟩
  · rw [hx0 hT]
    refine k_219_39 ?_
    rw [if_pos rfl, r1.1, t1.2.2.2.1, if_neg (nI_nlt (by omega) (by omega)), r_fine1 r1, if_neg (by decide)]
    exact fin σ1 0 0 hn.symm f1 z1 (fun j hj => absurd hj (by omega))
  · obtain ⟨hle, hk3⟩ := psA_le (L := min T 60) hC k hg
    rw [hx1 hT]
    refine r_hourTo (by omega) hg t1 r1 (fun σ2 w f2 r2 t2 c2 => ?_) _
    have f12 : Fr pHq σ σ2 := Fr.tr f1 (fr_pH2 f2)
    have z2 : σ2 214 9 = 0 := (f2 214 9 (by decide)).trans z1
    refine k_219_39 ?_
    rw [if_neg (by decide), r_fine1 r2, if_neg (by decide), show nI k + (1 : Int32) = nI (k + 1) from nI_add k 1, show (3 : Int32) * nI k = nI (3 * k) from zm3 k]
    refine r_readAct (C := C) (T := T) (m := 60) (by omega) t2 r2 hle (fun _ σ3 f3 k0 r3 => ?_) (fun q => by rw [q2] at q; cases q)
    rw [q3] at r3
    have t3 := t2.p25 f3
    refine r_passesF t3.to r3 (Nat.le_refl _) (c := 59) (by decide) (fun q => by rw [hC _ (Nat.le_refl _)] at q; cases q) (fun _ => ?_)
    refine k_219_39 ?_
    rw [if_pos rfl, r3.1, t3.2.2.2.1, if_neg (nI_nlt (by omega) (by omega)), r_fine1 r3, if_neg (by decide)]
    refine fin σ3 0 (k + 1) hn.symm (Fr.tr f12 (fr_pH2 (fr_p25 f3))) ((f3 214 9 (by simp [p25])).trans z2) ?_
    rw [hn]
    exact (c2.p25 f3).next k0
/-! the class's side -/
def pHc (o i : Nat) : Bool := decide ((o = 1 ∧ 1 ≤ i ∧ i ≤ 4) ∨ (o = 10 ∧ i = 3) ∨ o = 11 ∨ o = 12 ∨ o = 13)
theorem c_hour {C : Nat → Nat} {T d : Nat} {σ : zS} (hx : TX C T σ) {Q : Int32 → zS → Prop}
    (hok : ∀ n, hrN C T n → ∀ σ', Fr pHc σ σ' → σ' 1 1 = 0 → σ' 10 3 = nI n → (∀ j, j < n → ActC (cutC C (min T 60)) (psA (cutC C (min T 60)) j) j σ') → ZC (d + 6) 35 [.ref 37, .ref 14, .ref 32] σ' (fun _ s9 => Z (d + 6) 96 Q 55 [.ref 0, .int 0, .int 0, .int 0, .retAddr 0] [] s9))
    (hno : ∀ k p, 0 < T → (BadA (cutC C (min T 60)) (min T 60) k p ∨ (OkA (cutC C (min T 60)) (min T 60) k ∧ 60 < T ∧ p = min T 60)) → ∀ σ', Fr pHc σ σ' → σ' 1 1 = 0 → Q (-1 - nI p) σ') : ZC (d + 7) 96 [.ref 0] σ Q := by
  have h80 := hx.1
  have hC : ∀ i, min T 60 ≤ i → cutC C (min T 60) i = 999 := cutC_ge C _
  refine k_96_0 ?_
  rw [show (Value.int 60) = .int (nI 60) from rfl]
  refine c_open (m := 60) hx (by decide) (fun σ0 f0 t0 m0 => ?_)
  have fo : Fr pHc σ σ0 := Fr.mono f0 (fun o i q => by
    unfold pOp
    unfold pHc at q
    rw [decide_eq_false_iff_not] at q ⊢
    omega)
  have up : ∀ {σ1 : zS}, Fr (pRo 0) σ0 σ1 → Fr pHc σ (zup σ1 1 1 0) := fun f => Fr.tr fo (Fr.tr (Fr.mono f (fun o i q => by
    unfold pHc at q
    unfold pRo
    rw [decide_eq_false_iff_not] at q ⊢
    omega)) (Fr.up (by decide)))
  refine c_readAll hC (by omega) t0 (fun hL => ?_) (fun k hL ho hk σ1 f1 t1 e1 a1 => ?_) (fun k p hL ho hp hk σ1 f1 t1 => ?_)
  · have t1 : TC (cutC C (min T 60)) (min T 60) 0 (zup σ0 10 3 0) := TC.fr t0 (fun i => rfl) rfl t0.1 (Nat.zero_le _)
    rw [show (Value.int 1) = .int (b2i true) from rfl, c_close t1 (show (zup σ0 10 3 0) 1 4 = _ from m0), decide_eq_true hL.symm, decide_eq_false (show ¬ 60 < T by omega), if_neg (by decide)]
    exact hok 0 (Or.inl ⟨by omega, rfl⟩) _ (up (Fr.up (by decide))) rfl rfl (fun j hj => absurd hj (Nat.not_lt_zero j))
  · have m1 : σ1 1 4 = b2i (decide (60 < T)) := (f1 1 4 (by decide)).trans m0
    rw [show (Value.int 1) = .int (b2i true) from rfl, c_close t1 m1, decide_eq_true rfl, Bool.true_and, Bool.true_and]
    by_cases h60 : 60 < T
    · rw [decide_eq_true h60, if_pos (by decide), c_fault (a := min T 60) (show (zup σ1 1 1 0) 1 2 = nI (min T 60) from t1.1)]
      exact hno k _ (by omega) (Or.inr ⟨ho, h60, rfl⟩) _ (up f1) rfl
    · rw [decide_eq_false h60, if_neg (by decide)]
      exact hok (k + 1) (Or.inr ⟨by omega, by omega, k, rfl, ho⟩) _ (up f1) rfl e1 (fun j hj => a1 j hj)
  · rw [show (Value.int 0) = .int (b2i false) from rfl, c_close t1 ((f1 1 4 (by decide)).trans m0), Bool.false_and, Bool.false_and, if_pos (by decide), c_fault (a := p) (show (zup σ1 1 1 0) 1 2 = nI p from t1.1)]
    exact hno k p (by omega) (Or.inl ho) _ (up f1) rfl
