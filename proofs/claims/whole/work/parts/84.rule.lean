/-! the rule is told -/
/-- what was read well are plain signs -/
def GS (C : Nat → Nat) (a : Nat) (r : PR) : Prop := r.1 = true → ∀ i, a ≤ i → i < r.2.1 → C i < 128
section SIGNS
variable {C : Nat → Nat}
theorem gs_num : ∀ n a v i, a ≤ i → i < (pNum C n a v).1 → C i < 128 := by
  intro n
  induction n with
  | zero => intro a v i h1 h2; unfold pNum at h2; omega
  | succ n ih =>
    intro a v i h1 h2
    unfold pNum at h2
    split at h2
    · by_cases q : i = a
      · subst q; omega
      · exact ih (a + 1) _ i (by omega) h2
    · have : i < a := h2
      omega
theorem gs_thing {sub : Nat → PR} {ok : Bool} (hs : ok = true → ∀ a, GS C a (sub a)) (a : Nat) : GS C a (pThing C sub ok a) := by
  intro hr i h1 h2
  unfold pThing at hr h2
  by_cases q40 : C a = 40
  · rw [if_pos q40] at hr h2
    cases ok
    · rw [if_neg (by decide)] at hr; cases hr
    · rw [if_pos rfl] at hr h2
      split at hr
      · rename_i q1
        rw [if_pos q1] at h2
        split at hr
        · rename_i q2
          rw [if_pos q2] at h2
          have h2' : i < (sub (a + 1)).2.1 + 1 := h2
          by_cases q3 : i = a
          · subst q3; omega
          · by_cases q4 : i = (sub (a + 1)).2.1
            · rw [q4]; omega
            · exact hs rfl (a + 1) q1 i (by omega) (by omega)
        · cases hr
      · cases hr
  · rw [if_neg q40] at hr h2
    split at hr
    · rename_i q1
      rw [if_pos q1] at h2
      by_cases q3 : i = a
      · subst q3; omega
      · exact gs_num 2 (a + 1) _ i (by omega) h2
    · rename_i q1
      rw [if_neg q1] at h2
      split at hr
      · cases hr
      · rename_i q2
        rw [if_neg q2] at h2
        have h2' : i < a + 1 := h2
        have : i = a := by omega
        subst this
        have := vof_inv q2
        omega
theorem gs_mns : ∀ n a i, a ≤ i → i < mns C n a → C i < 128 := by
  intro n
  induction n with
  | zero => intro a i h1 h2; unfold mns at h2; omega
  | succ n ih =>
    intro a i h1 h2
    unfold mns at h2
    split at h2
    · by_cases q : i = a
      · subst q; omega
      · exact ih (a + 1) i (by omega) h2
    · omega
theorem gs_signed {sub : Nat → PR} {ok : Bool} (hs : ok = true → ∀ a, GS C a (sub a)) (a : Nat) : GS C a (pSigned C sub ok a) := by
  intro hr i h1 h2
  have h := gs_thing hs (mns C 40 a)
  unfold pSigned pSgn at hr h2
  generalize pThing C sub ok (mns C 40 a) = r at h hr h2
  split at hr
  · rename_i q
    rw [if_pos q] at h2
    by_cases q2 : i < mns C 40 a
    · exact gs_mns 40 a i h1 q2
    · exact h q i (by omega) h2
  · cases hr
theorem gs_rest {p : Nat → PR} {o1 o2 : Nat} (h1 : o1 < 128) (h2 : o2 < 128) (hp : ∀ a, GS C a (p a)) : ∀ n a l a0, (∀ i, a0 ≤ i → i < a → C i < 128) → GS C a0 (pRest C p o1 o2 n a l) := by
  intro n
  induction n with
  | zero => intro a l a0 h _ i g1 g2; exact h i g1 g2
  | succ n ih =>
    intro a l a0 h
    unfold pRest
    split
    · rename_i q
      split
      · rename_i q2
        refine ih _ _ a0 (fun i g1 g2 => ?_)
        by_cases q3 : i < a
        · exact h i g1 q3
        · by_cases q4 : i = a
          · subst q4; omega
          · exact hp (a + 1) q2 i (by omega) g2
      · intro hr; cases hr
    · intro _ i g1 g2; exact h i g1 g2
theorem gs_loop {p : Nat → PR} {o1 o2 : Nat} (h1 : o1 < 128) (h2 : o2 < 128) (hp : ∀ a, GS C a (p a)) (a : Nat) : GS C a (pLoop C p o1 o2 a) := by
  unfold pLoop
  split
  · rename_i q
    exact gs_rest h1 h2 hp 40 _ _ a (hp a q)
  · intro hr; cases hr
theorem gs_cmp {p : Nat → PR} (hp : ∀ a, GS C a (p a)) (a : Nat) : GS C a (pCmp C p a) := by
  unfold pCmp
  by_cases q : (p a).1 = true
  · rw [if_pos q]
    by_cases q2 : C (p a).2.1 = 60 ∨ C (p a).2.1 = 62 ∨ C (p a).2.1 = 61
    · rw [if_pos q2]
      split
      · rename_i q3
        intro _ i g1 g2
        by_cases q4 : i < (p a).2.1
        · exact hp a q i g1 q4
        · by_cases q5 : i = (p a).2.1
          · rw [q5]; omega
          · exact hp _ q3 i (by omega) g2
      · intro hr; cases hr
    · rw [if_neg q2]; exact hp a
  · rw [if_neg q]; intro hr; cases hr
theorem gs_pE : ∀ n a, GS C a (pE C n a) := by
  intro n
  induction n with
  | zero => intro a; exact gs_cmp (fun a => gs_loop (by decide) (by decide) (fun a => gs_loop (by decide) (by decide) (fun a => gs_signed (fun q => by cases q) a) a) a) a
  | succ n ih => intro a; exact gs_cmp (fun a => gs_loop (by decide) (by decide) (fun a => gs_loop (by decide) (by decide) (fun a => gs_signed (fun _ => ih) a) a) a) a
end SIGNS
def dRu (o i : Nat) : Bool := (scr o i || dText o i) || dRule o i
theorem Inv.ruled {b : Nat} {l' : List Int32} {σ σ' : zS} (h : Inv b σ) (hf : Fr dRu σ σ') (hr : pRule l' σ') (hc : pText σ') : Inv b σ' := by
  obtain ⟨F, l, W, h1, h2, h3, h4, h5, h6, h7, h8, h9, h10, h11, h12⟩ := h
  have fin : ∀ dep : Nat → Nat → Bool, (∀ o i, dep o i = true → dRu o i = false) → AG dep σ σ' := fun dep q => AG.of hf q
  refine ⟨F, l', W, pWall.ag (fin dWall ?_) h1, pRow.ag (fin dRow ?_) h2, hr, pWind.ag (fin dWind ?_) h4, hc, pJd.ag (fin dJd ?_) h6, pTold.ag (fin dTold ?_) h7, pCrew.ag (fin dCrew ?_) h8, pSeen.ag (fin dSeen ?_) h9, pPast.ag (fin dPast ?_) h10, pKept.ag (fin dKept ?_) h11, (hf 214 7 (by decide)).trans h12⟩
  all_goals
    intro o i q
    simp only [dWall, dRow, dRule, dWind, dText, dJd, dCrew, dSeen, dPast, dKept, dRu, scr, dTold, decide_eq_true_eq, decide_eq_false_iff_not, Bool.or_eq_false_iff] at q ⊢
    omega
def pLc (o i : Nat) : Bool := decide ((o = 1 ∧ 1 ≤ i ∧ i ≤ 4) ∨ (o = 8 ∧ i = 1) ∨ o = 9)
def pLr (o i : Nat) : Bool := decide (o = 214 ∧ (i = 9 ∨ (12 ≤ i ∧ i ≤ 17) ∨ i = 21))
def rdE (C : Nat → Nat) (T : Nat) : PR := pE (cutC C (min T 40)) 4 0
def ruOk (C : Nat → Nat) (T : Nat) : Prop := (rdE C T).1 = true ∧ (rdE C T).2.1 = T ∧ T ≤ 40
theorem c_rule {d T : Nat} {C : Nat → Nat} {σ : zS} (hx : TX C T σ) {Q : Int32 → zS → Prop}
    (h0 : T = 0 → ∀ σ', Fr pLc σ σ' → σ' 1 1 = 0 → Q 0 (zup (zup (zup (zup σ' 5 0 1000) 5 1 3) 5 2 (-62)) 3 2 3))
    (hok : 0 < T → ruOk C T → ∀ σ', Fr pLc σ σ' → σ' 1 1 = 0 → HL (rdE C T).2.2 σ' → Q 0 (zup (zput σ' 5 (va_cpy (σ' 9) (σ' 5) (Int32.toNatClampNeg 0) (Int32.toNatClampNeg 0) (Int32.toNatClampNeg 40))) 3 2 (σ' 8 1)))
    (hbad : 0 < T → ¬ ruOk C T → ∀ σ', Fr pLc σ σ' → σ' 1 1 = 0 → Q (-1 - nI (rdE C T).2.1) σ') : ZC (d + 31) 86 [.ref 0] σ Q := by
  have h80 := hx.1
  refine k_86_0 ?_
  refine c_open (m := 40) hx (by decide) (fun σ0 f0 t0 m0 => ?_)
  rw [c_isOver t0]
  have fo : Fr pLc σ σ0 := Fr.mono f0 (fun o i q => by
    unfold pOp
    unfold pLc at q
    rw [decide_eq_false_iff_not] at q ⊢
    omega)
  by_cases hT : T = 0
  · rw [decide_eq_true (show 0 = min T 40 by omega), if_neg (by decide), show (Value.int 1) = .int (b2i true) from rfl, c_close t0 m0, decide_eq_true (show 0 = min T 40 by omega), decide_eq_false (show ¬ 40 < T by omega), if_neg (by decide), if_neg (by decide)]
    refine k_39_0 ?_
    exact h0 hT _ (Fr.tr fo (Fr.up (by decide))) rfl
  · rw [decide_eq_false (show ¬ 0 = min T 40 by omega), if_pos (by decide)]
    refine k_46_0 ?_
    have hC : ∀ i, min T 40 ≤ i → cutC C (min T 40) i = 999 := cutC_ge C _
    have hgd := pE_gd (C := cutC C (min T 40)) (L := min T 40) hC 4 0 (Nat.zero_le _)
    have t0' : TC (cutC C (min T 40)) (min T 40) 0 (zup σ0 8 1 0) := TC.fr t0 (fun i => rfl) rfl t0.1 (Nat.zero_le _)
    refine c_pE (C := cutC C (min T 40)) (L := min T 40) hC (by omega) 4 (by decide) d 0 [] (zup σ0 8 1 0) t0' ⟨rfl, fun i hi => absurd hi (Nat.not_lt_zero i)⟩ (Nat.le_refl 0) _ (fun σ1 p1 => ?_)
    obtain ⟨f1, t1, -, g1⟩ := p1
    have e0 : ∀ b : Bool, ((b2i b &&& 1 = b2i b) = True) := by decide
    rw [if_pos (by rw [e0]; trivial)]
    have m1 : σ1 1 4 = b2i (decide (40 < T)) := (f1 1 4 (by decide)).trans m0
    have f2 : Fr pLc σ σ1 := Fr.tr fo (Fr.tr (Fr.up (by decide)) (Fr.mono f1 (fun o i q => by
      unfold pp
      unfold pLc at q
      rw [decide_eq_false_iff_not] at q ⊢
      omega)))
    have f3 : Fr pLc σ (zup σ1 1 1 0) := Fr.tr f2 (Fr.up (by decide))
    cases hr : (pE (cutC C (min T 40)) 4 0).1
    · rw [if_pos (show b2i false = 0 from rfl), show (Value.int 0) = .int (b2i false) from rfl, c_close t1 m1, Bool.false_and, Bool.false_and, if_pos (by decide), c_fault (a := (rdE C T).2.1) (show (zup σ1 1 1 0) 1 2 = nI (rdE C T).2.1 from t1.1)]
      exact hbad (by omega) (fun q => by have := q.1; unfold rdE at this; rw [hr] at this; cases this) _ f3 rfl
    · rw [hr] at g1
      rw [if_neg (show ¬ b2i true = 0 by decide), show (Value.int 1) = .int (b2i true) from rfl, c_close t1 m1, Bool.true_and]
      by_cases hg : (rdE C T).2.1 = T ∧ T ≤ 40
      · rw [decide_eq_true (show (pE (cutC C (min T 40)) 4 0).2.1 = min T 40 by have := hg.1; unfold rdE at this; omega), decide_eq_false (show ¬ 40 < T by omega), if_neg (by decide), if_pos (by decide)]
        refine k_40_0 ?_
        exact hok (by omega) ⟨hr, hg.1, hg.2⟩ _ f3 rfl (HL.fr (g1 rfl) rfl (fun i => rfl))
      · have e : (decide ((pE (cutC C (min T 40)) 4 0).2.1 = min T 40) && !decide (40 < T)) = false := by
          by_cases q1 : (pE (cutC C (min T 40)) 4 0).2.1 = min T 40
          · rw [decide_eq_true q1, decide_eq_true (show 40 < T by
              by_cases q2 : 40 < T
              · exact q2
              · exact absurd ⟨by unfold rdE; omega, by omega⟩ hg)]; rfl
          · rw [decide_eq_false q1]; rfl
        rw [e, if_pos (by decide), c_fault (a := (rdE C T).2.1) (show (zup σ1 1 1 0) 1 2 = nI (rdE C T).2.1 from t1.1)]
        exact hbad (by omega) (fun q => hg q.2) _ f3 rfl
