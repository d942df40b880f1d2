/-! the reference reads all lines of THE WALL -/
def pWq (o i : Nat) : Bool := decide ((o = 214 ∧ (i = 9 ∨ (12 ≤ i ∧ i ≤ 17))) ∨ o = 221)
def pW2 (o i : Nat) : Bool := decide ((o = 214 ∧ 12 ≤ i ∧ i ≤ 17) ∨ o = 221)
theorem fr_pW2 {σ σ' : zS} (h : Fr pW2 σ σ') : Fr pWq σ σ' := Fr.mono h (fun o i q => by
  unfold pWq at q
  unfold pW2
  rw [decide_eq_false_iff_not] at q ⊢
  omega)
def Cst (C : Nat → Nat) (k : Nat) (σ : zS) : Prop := ∀ j, j < k → σ 221 (3 * j) = nI (pLn C (psn C j)).2.2.1 ∧ σ 221 (3 * j + 1) = nI (pLn C (psn C j)).2.2.2.1 ∧ σ 221 (3 * j + 2) = (pLn C (psn C j)).2.2.2.2
theorem Cst.p21 {C : Nat → Nat} {k : Nat} {σ σ' : zS} (h : Cst C k σ) (hf : Fr (p21 k) σ σ') : Cst C k σ' := fun j hj => by
  rw [hf 221 (3 * j) (decide_eq_false (by omega)), hf 221 (3 * j + 1) (decide_eq_false (by omega)), hf 221 (3 * j + 2) (decide_eq_false (by omega))]
  exact h j hj
theorem Cst.next {C : Nat → Nat} {k : Nat} {σ : zS} (h : Cst C k σ) (h0 : σ 221 (3 * k) = nI (pLn C (psn C k)).2.2.1) (h1 : σ 221 (3 * k + 1) = nI (pLn C (psn C k)).2.2.2.1) (h2 : σ 221 (3 * k + 2) = (pLn C (psn C k)).2.2.2.2) : Cst C (k + 1) σ := fun j hj => by
  by_cases q : j = k
  · rw [q]; exact ⟨h0, h1, h2⟩
  · exact h j (by omega)
theorem fr_p21 {k : Nat} {σ σ' : zS} (h : Fr (p21 k) σ σ') : Fr pW2 σ σ' := Fr.mono h (fun o i q => by
  unfold pW2 at q
  unfold p21
  rw [decide_eq_false_iff_not] at q ⊢
  omega)
theorem psn_le {C : Nat → Nat} {L F : Nat} (hC : ∀ i, L ≤ i → C i = 999) : ∀ k, Gp C F k → psn C k ≤ L := by
  intro k
  induction k with
  | zero => intro _; exact Nat.zero_le _
  | succ k ih =>
    intro h
    have h1 := ih (fun j hj => h j (by omega))
    have h2 := pLn_le hC h1
    have h3 := (h k (by omega)).2.2
    have h4 := inL (L := L) hC (a := (pLn C (psn C k)).2.1) (by omega)
    rw [psn_1]; omega
theorem r_wallBad {d n p L : Nat} {σ : zS} {w : Value} (hB : RB L p σ) {Q : Int32 → zS → Prop} (hq : Q (-1 - nI p) σ) : Z (d + 3) 189 Q 37 [.ref 214, .int (nI n), .int 0, w] [] σ := by
  refine k_189_37 ?_
  rw [if_pos rfl]
  by_cases h : σ 214 16 < σ 214 14
  · rw [if_pos h, r_faultB hB, r_fine0 hB, if_pos rfl, hB.1]; exact hq
  · rw [if_neg h, r_fine0 hB, if_pos rfl, hB.1]; exact hq
theorem r_wallTo {C : Nat → Nat} {T F k d : Nat} {σ : zS} (h9 : F ≤ 9) (hg : Gp (cutC C (min T 76)) F k) (hR : RT C T 76 σ) (hF : RF 0 σ) (h1 : σ 214 1 = nI F) {Q : Int32 → zS → Prop}
    (hq : ∀ σ' w, Fr pW2 σ σ' → RF (psn (cutC C (min T 76)) k) σ' → RT C T 76 σ' → Cst (cutC C (min T 76)) k σ' → Z (d + 4) 189 Q 37 [.ref 214, .int (nI k), .int 1, w] [] σ') : ∀ w, Z (d + 4) 189 Q 37 [.ref 214, .int 0, .int 1, w] [] σ := by
  have hC : ∀ i, min T 76 ≤ i → cutC C (min T 76) i = 999 := cutC_ge C _
  have hloop := z_for (F := k) (P := fun j => ∀ σ1 w, Fr pW2 σ σ1 → RF (psn (cutC C (min T 76)) j) σ1 → RT C T 76 σ1 → Cst (cutC C (min T 76)) j σ1 → Z (d + 4) 189 Q 37 [.ref 214, .int (nI j), .int 1, w] [] σ1) (fun j hj ih => ?_) hq
  · exact fun w => hloop σ w Fr.rf hF hR (fun j hj => absurd hj (Nat.not_lt_zero j))
  · intro σ1 w f1 r1 t1 c1
    obtain ⟨g1, g2, g3⟩ := hg j hj
    have hle := psn_le (L := min T 76) hC j (fun i hi => hg i (by omega))
    refine k_189_37 ?_
    rw [if_neg (by decide), r_fine1 r1, if_neg (by decide), show σ1 214 1 = nI F from (f1 214 1 (by decide)).trans h1, nI_add, if_neg (show ¬ nI (F + j) = 9 from fun q => by have := (nI_eq (a := F + j) (b := 9) (by omega) (by decide)).mp q; omega), show (3 : Int32) * nI j = nI (3 * j) from zm3 j]
    have hl := inL (L := min T 76) hC (a := (pLn (cutC C (min T 76)) (psn (cutC C (min T 76)) j)).2.1) (by omega)
    refine r_readFace (C := C) (T := T) (m := 76) (by omega) t1 r1 hle (fun _ σ2 f2 k0 k1 k2 r2 => ?_) (fun q => by rw [g2] at q; cases q)
    have r2' : RF (pLn (cutC C (min T 76)) (psn (cutC C (min T 76)) j)).2.1 σ2 := by
      rcases r2 with r2 | ⟨q1, q2, -⟩
      · exact r2
      · omega
    refine r_passesF (t1.p21 f2).to r2' (by omega) (c := 59) (by decide) (fun _ => ?_) (fun q => absurd g3 q)
    rw [show nI j + (1 : Int32) = nI (j + 1) from nI_add j 1]
    refine ih _ _ (Fr.tr f1 (Fr.tr (fr_p21 f2) (Fr.up (by decide)))) (RF.to r2') ((t1.p21 f2).ag (fun i q1 q2 => ?_) (fun i => rfl)) (((c1.p21 f2).next k0 k1 k2))
    rw [zup_eq, zput_app, if_pos rfl, upd_ne (by omega)]
theorem r_wallBegin {C : Nat → Nat} {T d : Nat} {σ : zS} (hx : TXr C T σ) {Q : Int32 → zS → Prop}
    (h0 : T = 0 → ∀ σ', Fr pWq σ σ' → σ' 214 9 = 0 → Q 0 σ')
    (hq : 0 < T → ∀ σ', Fr pWq σ σ' → σ' 214 9 = 0 → RT C T 76 σ' → RF 0 σ' → Z (d + 4) 189 Q 37 [.ref 214, .int 0, .int 1, .retAddr 0] [] σ') : ZC (d + 5) 189 [.ref 214] σ Q := by
  obtain ⟨h80, h9, hch⟩ := hx
  refine k_189_0 ?_
  rw [h9, show (Value.int 76) = .int (nI 76) from rfl]
  refine r_begin219 (m := 76) (fun σ0 f0 e13 e14 e15 rf0 => ?_)
  have f1 : Fr pWq σ (zup σ0 214 9 0) := Fr.tr (Fr.up (by decide)) (Fr.tr (Fr.mono f0 (fun o i q => by
    unfold pBe
    unfold pWq at q
    rw [decide_eq_false_iff_not] at q ⊢
    omega)) (Fr.up (by decide)))
  rw [e14]
  by_cases hT : T = 0
  · subst hT
    rw [if_pos (show nI 0 = 0 from rfl)]
    exact h0 rfl _ f1 rfl
  · rw [if_neg (nI_ne0 (by omega) (by omega))]
    exact hq (by omega) _ f1 rfl ⟨h80, by decide, e13, e14, e15, fun i hi => by
      rw [show (zup σ0 214 9 0) 219 i = σ 219 i from f1 219 i (by simp [pWq])]
      exact hch i (by omega)⟩ ⟨rf0.1, rf0.2⟩
theorem r_wallNo {C : Nat → Nat} {T F k p d : Nat} {σ : zS} (hx : TXr C T σ) (hT : 0 < T) (h9 : F ≤ 9) (h1 : σ 214 1 = nI F) (ho : OutBad (cutC C (min T 76)) (min T 76) F k p ∨ (OutOk (cutC C (min T 76)) (min T 76) F k ∧ 76 < T ∧ p = min T 76)) {Q : Int32 → zS → Prop}
    (hq : ∀ σ', Fr pWq σ σ' → σ' 214 9 = 0 → Q (-1 - nI p) σ') : ZC (d + 5) 189 [.ref 214] σ Q := by
  have h80 := hx.1
  have hC : ∀ i, min T 76 ≤ i → cutC C (min T 76) i = 999 := cutC_ge C _
  refine r_wallBegin hx (fun q => absurd q (by omega)) (fun _ σ1 f1 z1 t1 r1 => ?_)
  have e1 : σ1 214 1 = nI F := (f1 214 1 (by decide)).trans h1
  have hg : Gp (cutC C (min T 76)) F k := by rcases ho with ⟨q, -⟩ | ⟨⟨q, -⟩, -⟩ <;> exact q
  have hle := psn_le (L := min T 76) hC k hg
  refine r_wallTo h9 hg t1 r1 e1 (fun σ2 w f2 r2 t2 c2 => ?_) _
  have f12 : Fr pWq σ σ2 := Fr.tr f1 (fr_pW2 f2)
  have z2 : σ2 214 9 = 0 := (f2 214 9 (by decide)).trans z1
  refine k_189_37 ?_
  rw [if_neg (by decide), r_fine1 r2, if_neg (by decide), show σ2 214 1 = nI F from (f2 214 1 (by decide)).trans e1, nI_add, show nI k + (1 : Int32) = nI (k + 1) from nI_add k 1]
  have hle2 := pLn_le hC hle
  have hkF := hg.le h9
  -- a fault at p that is told at once, behind the line
  have bad : ∀ σ3 w, Fr pW2 σ2 σ3 → RB (min T 76) p σ3 → ZC (d + 4) 185 [.ref 214, .int 59] σ3 (fun v s17 => Z (d + 4) 189 Q 37 [.ref 214, .int (nI (k + 1)), .int v, w] [] s17) := fun σ3 w f3 b3 => by
    rw [r_passesB b3]
    exact r_wallBad b3 (hq _ (Fr.tr f12 (fr_pW2 f3)) ((f3 214 9 (by decide)).trans z2))
  -- the reading stands at p: no sign ; there, and not the end
  have stop : ∀ σ3 w, Fr pW2 σ2 σ3 → RF p σ3 → RT C T 76 σ3 → p ≤ min T 76 → cutC C (min T 76) p ≠ 59 → p < T → ZC (d + 4) 185 [.ref 214, .int 59] σ3 (fun v s17 => Z (d + 4) 189 Q 37 [.ref 214, .int (nI (k + 1)), .int v, w] [] s17) := fun σ3 w f3 r3 t3 hp hn hpT => by
    refine r_passesF t3.to r3 hp (c := 59) (by decide) (fun q => absurd q hn) (fun _ => ?_)
    refine k_189_37 ?_
    have hB : RB (min T 76) p (zup σ3 214 17 (nI p)) := RF.bad r3 hp (by omega)
    rw [if_pos rfl, r3.1, t3.2.2.2.1, if_pos (nI_lt hpT (by omega)), r_fault r3.2, r_fine0 hB, if_pos rfl, hB.1]
    exact hq _ (Fr.tr f12 (fr_pW2 (Fr.tr f3 (Fr.up (by decide))))) ((f3 214 9 (by decide)).trans z2)
  have n9 : F + k ≠ 9 → ¬ (nI (F + k) = 9) := fun q1 q => q1 ((nI_eq (a := F + k) (b := 9) (by omega) (by decide)).mp q)
  rcases ho with ⟨-, ⟨q1, q2⟩ | ⟨q1, q2, q3⟩ | ⟨q1, q2, q3, q4, q5⟩⟩ | ⟨⟨-, q1, q2, q3⟩, q4, q5⟩
  · rw [if_pos (show nI (F + k) = 9 by rw [q1]; rfl), r2.1, r_fault r2.2]
    refine bad _ _ (Fr.up (by decide)) ?_
    rw [q2]
    exact RF.bad r2 hle (by omega)
  · rw [if_neg (n9 (by omega)), show (3 : Int32) * nI k = nI (3 * k) from zm3 k]
    refine r_readFace (C := C) (T := T) (m := 76) (by omega) t2 r2 hle (fun q => by rw [q2] at q; cases q) (fun _ σ3 f3 b3 => ?_)
    exact bad σ3 _ (fr_p21 f3) (by rw [q3]; exact b3)
  · rw [if_neg (n9 (by omega)), show (3 : Int32) * nI k = nI (3 * k) from zm3 k]
    refine r_readFace (C := C) (T := T) (m := 76) (by omega) t2 r2 hle (fun _ σ3 f3 k0 k1 k2 r3 => ?_) (fun q => by rw [q2] at q; cases q)
    rcases r3 with r3 | ⟨-, -, b3⟩
    · refine stop σ3 _ (fr_p21 f3) (by rw [q5]; exact r3) (t2.p21 f3) (by omega) (by rw [q5]; exact q4) (by omega)
    · exact bad σ3 _ (fr_p21 f3) (by rw [q5]; exact b3)
  · rw [if_neg (n9 (by omega)), show (3 : Int32) * nI k = nI (3 * k) from zm3 k]
    refine r_readFace (C := C) (T := T) (m := 76) (by omega) t2 r2 hle (fun _ σ3 f3 k0 k1 k2 r3 => ?_) (fun q => by rw [q2] at q; cases q)
    have h999 : cutC C (min T 76) (pLn (cutC C (min T 76)) (psn (cutC C (min T 76)) k)).2.1 = 999 := by rw [q3]; exact hC _ (Nat.le_refl _)
    rcases r3 with r3 | ⟨-, q6, -⟩
    · rw [q3] at r3
      refine stop σ3 _ (fr_p21 f3) (by rw [q5]; exact r3) (t2.p21 f3) (by omega) (by rw [q5, hC _ (Nat.le_refl _)]; decide) (by omega)
    · omega
