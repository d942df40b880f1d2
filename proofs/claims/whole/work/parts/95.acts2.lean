/-! ACTS, one behind the other; the reference reads one -/
def psA (C : Nat → Nat) : Nat → Nat
  | 0 => 0
  | j + 1 => (pAct C (psA C j)).2.1 + 1
theorem psA_1 (C : Nat → Nat) (j : Nat) : psA C (j + 1) = (pAct C (psA C j)).2.1 + 1 := rfl
def GpA (C : Nat → Nat) (k : Nat) : Prop := ∀ j, j < k → (pAct C (psA C j)).1 = true ∧ C (pAct C (psA C j)).2.1 = 59
def OkA (C : Nat → Nat) (L k : Nat) : Prop := GpA C k ∧ (pAct C (psA C k)).1 = true ∧ (pAct C (psA C k)).2.1 = L
def BadA (C : Nat → Nat) (L k p : Nat) : Prop := GpA C k ∧ (((pAct C (psA C k)).1 = false ∧ p = (pAct C (psA C k)).2.1) ∨ ((pAct C (psA C k)).1 = true ∧ (pAct C (psA C k)).2.1 ≠ L ∧ C (pAct C (psA C k)).2.1 ≠ 59 ∧ p = (pAct C (psA C k)).2.1))
theorem GpA.next {C : Nat → Nat} {k : Nat} (h : GpA C k) (h2 : (pAct C (psA C k)).1 = true) (h3 : C (pAct C (psA C k)).2.1 = 59) : GpA C (k + 1) := fun j hj => by
  by_cases q : j = k
  · rw [q]; exact ⟨h2, h3⟩
  · exact h j (by omega)
theorem psA_le {C : Nat → Nat} {L : Nat} (hC : ∀ i, L ≤ i → C i = 999) : ∀ k, GpA C k → psA C k ≤ L ∧ 3 * k ≤ psA C k := by
  intro k
  induction k with
  | zero => intro _; exact ⟨Nat.zero_le _, Nat.zero_le _⟩
  | succ k ih =>
    intro h
    have h1 := ih (fun j hj => h j (by omega))
    have h2 := pAct_le hC h1.1
    have h3 := (h k (by omega)).2
    have h4 := inL (L := L) hC (a := (pAct C (psA C k)).2.1) (by omega)
    have h5 := h2.2.2 (h k (by omega)).1
    rw [psA_1]; omega
theorem c_readAll {C : Nat → Nat} {L d : Nat} (hC : ∀ i, L ≤ i → C i = 999) (hL60 : L ≤ 60) {σ : zS} (ht : TC C L 0 σ) {Q : Int32 → zS → Prop}
    (h00 : L = 0 → Q 1 (zup σ 10 3 0))
    (h1 : ∀ k, 0 < L → OkA C L k → k < 20 → ∀ σ', Fr (pRo 0) σ σ' → TC C L L σ' → σ' 10 3 = nI (k + 1) → (∀ j, j < k + 1 → ActC C (psA C j) j σ') → Q 1 σ')
    (h0 : ∀ k p, 0 < L → BadA C L k p → p ≤ L → k ≤ 20 → ∀ σ', Fr (pRo 0) σ σ' → TC C L p σ' → Q 0 σ') : ZC (d + 6) 7 [.ref 10] σ Q := by
  refine k_7_0 ?_
  have t0 : TC C L 0 (zup σ 10 3 0) := TC.fr ht (fun i => rfl) rfl ht.1 (Nat.zero_le _)
  rw [c_isOver t0]
  by_cases hL : L = 0
  · rw [decide_eq_true (show 0 = L from hL.symm), if_neg (by decide)]
    exact h00 hL
  rw [decide_eq_false (show ¬ 0 = L by omega), if_pos (by decide)]
  have hloop := z_for (F := 60) (P := fun k => ∀ σ1, GpA C k → TC C L (psA C k) σ1 → Fr (pRo 0) σ σ1 → σ1 10 3 = nI k → (∀ j, j < k → ActC C (psA C j) j σ1) → Z (d + 5) 7 Q 19 [.ref 10, .int (nI k)] [] σ1) (fun k hk ih => ?_) ?_
  · exact hloop _ (fun j hj => absurd hj (Nat.not_lt_zero j)) t0 (Fr.up (by decide)) rfl (fun j hj => absurd hj (Nat.not_lt_zero j))
  · intro σ1 hg t1 f1 e1 a1
    obtain ⟨p1, p2⟩ := psA_le hC k hg
    refine k_7_19 ?_
    rw [if_pos (show nI k < 60 from nI_lt (b := 60) hk (by decide))]
    have up : ∀ {σ2 : zS}, Fr (pRo k) σ1 σ2 → Fr (pRo 0) σ σ2 := fun f => Fr.tr f1 (Fr.mono f (fun o i q => by
      unfold pRo at q ⊢
      rw [decide_eq_false_iff_not] at q ⊢
      omega))
    have ak : ∀ {σ2 : zS}, Fr (pRo k) σ1 σ2 → ∀ j, j < k → ActC C (psA C j) j σ2 := fun f j hj => by
      obtain ⟨g1, g2, g3⟩ := a1 j hj
      exact ⟨(f 11 j (decide_eq_false (by omega))).trans g1, (f 12 j (decide_eq_false (by omega))).trans g2, (f 13 j (decide_eq_false (by omega))).trans g3⟩
    refine c_readOne hC t1 e1 (fun q => by omega) (fun hok σ2 f2 t2 e2 b2 => ?_) (fun hno σ2 f2 t2 => ?_)
    · have hle := pAct_le hC p1
      have hle2 := hle.2.2 hok
      rw [if_neg (by decide), c_isOver t2]
      have a2 : ∀ j, j < k + 1 → ActC C (psA C j) j σ2 := fun j hj => by
        by_cases q : j = k
        · rw [q]; exact b2
        · exact ak f2 j (by omega)
      by_cases hp : (pAct C (psA C k)).2.1 = L
      · rw [decide_eq_true hp, if_neg (by decide)]
        rw [hp] at t2
        exact h1 k (by omega) ⟨hg, hok, hp⟩ (by omega) σ2 (up f2) t2 e2 a2
      · rw [decide_eq_false hp, if_pos (by decide)]
        refine c_pick t2 (c := 59) (by decide) (fun q => ?_) (fun q => ?_)
        · have hl := inL (L := L) hC (a := (pAct C (psA C k)).2.1) (by omega)
          rw [if_neg (by decide), show nI k + (1 : Int32) = nI (k + 1) from nI_add k 1]
          refine ih _ (hg.next hok q) (TC.to t2 hl) (Fr.tr (up f2) (Fr.up (by decide))) e2 (fun j hj => a2 j hj)
        · rw [if_pos rfl]
          exact h0 k _ (by omega) ⟨hg, Or.inr ⟨hok, hp, q, rfl⟩⟩ t2.2.2.2.2.2 (by omega) σ2 (up f2) t2
    · rw [if_pos rfl]
      exact h0 k _ (by omega) ⟨hg, Or.inl ⟨hno, rfl⟩⟩ t2.2.2.2.2.2 (by omega) σ2 (up f2) t2
  · intro σ1 hg t1 f1 e1 a1
    obtain ⟨p1, p2⟩ := psA_le hC 60 hg
    omega
/-! the reference -/
def p25 (k o i : Nat) : Bool := decide ((o = 214 ∧ (i = 16 ∨ i = 17)) ∨ (o = 225 ∧ 3 * k ≤ i))
theorem RT.p25 {C : Nat → Nat} {T m k : Nat} {σ σ' : zS} (h : RT C T m σ) (hf : Fr (p25 k) σ σ') : RT C T m σ' :=
  h.ag (fun i q1 q2 => hf 214 i (decide_eq_false (by omega))) (fun i => hf 219 i (decide_eq_false (by omega)))
def ActR (C : Nat → Nat) (a k : Nat) (σ : zS) : Prop := σ 225 (3 * k) = nI (pAct C a).2.2.1 ∧ σ 225 (3 * k + 1) = (if (pAct C a).2.2.1 = 109 then nI (pAct C a).2.2.2.2 else nI (pAct C a).2.2.2.1) ∧ ((pAct C a).2.2.1 = 116 → σ 225 (3 * k + 2) = nI (pAct C a).2.2.2.2)
theorem r_readAct {C : Nat → Nat} {T m k a d : Nat} (hk : k ≤ 60) {σ : zS} (hR : RT C T m σ) (hF : RF a σ) (ha : a ≤ min T m) {Q : Int32 → zS → Prop}
    (h1 : (pAct (cutC C (min T m)) a).1 = true → ∀ σ', Fr (p25 k) σ σ' → ActR (cutC C (min T m)) a k σ' → RF (pAct (cutC C (min T m)) a).2.1 σ' → Q 0 σ')
    (h0 : (pAct (cutC C (min T m)) a).1 = false → ∀ σ', Fr (p25 k) σ σ' → RB (min T m + 1) (pAct (cutC C (min T m)) a).2.1 σ' → Q 0 σ') : ZC (d + 4) 220 [.ref 214, .int (nI (3 * k))] σ Q := by
  have h80 := hR.1
  have hC := hR.to.2.2.2.2
  generalize hD : cutC C (min T m) = D at h1 h0 hC
  have fat : ∀ {σ : zS} {i : Nat} {v : Int32}, (i = 16 ∨ i = 17) → Fr (p25 k) σ (zup σ 214 i v) := fun h => Fr.up (decide_eq_true (Or.inl ⟨rfl, h⟩))
  have fcm : ∀ {σ : zS} {i : Nat} {v : Int32}, 3 * k ≤ i → Fr (p25 k) σ (zup σ 225 i v) := fun h => Fr.up (decide_eq_true (Or.inr ⟨rfl, h⟩))
  have rt : ∀ {σ' : zS}, Fr (p25 k) σ σ' → R219 D (min T m) σ' := fun f => by rw [← hD]; exact (hR.p25 f).to
  have hi : ∀ i, D i ≠ 999 → i < min T m := fun i h => inL hC h
  have e1 : nI (3 * k) + (1 : Int32) = nI (3 * k + 1) := nI_add _ 1
  have e2 : nI (3 * k) + (2 : Int32) = nI (3 * k + 2) := nI_add _ 2
  have z0 : zin (nI (3 * k)) 240 = true := zin_nI (by omega) (by decide)
  have z1 : zin (nI (3 * k + 1)) 240 = true := zin_nI (by omega) (by decide)
  have z2 : zin (nI (3 * k + 2)) 240 = true := zin_nI (by omega) (by decide)
  have wide : ∀ {p : Nat} {σ' : zS}, RB (min T m) p σ' → RB (min T m + 1) p σ' := fun h => by
    obtain ⟨g1, g2, x, g3, g4⟩ := h
    exact ⟨g1, g2, x, by omega, g4⟩
  refine k_220_0 ?_
  simp only [e1, e2, z0, z1, z2, ↓reduceIte]
  rw [zcl (by omega), zcl (by omega), zcl (by omega)]
  obtain ⟨r1, -⟩ := rt Fr.rf
  refine r1 σ Fr.rf a ha hF.1 (d + 2) _ (fun x hx => ?_)
  have e : ∀ c, c < 128 → ((x = nI c) = (D a = c)) := fun c hc => chR_eq hx hc
  rw [hF.1, show nI a + (1 : Int32) = nI (a + 1) from nI_add a 1]
  by_cases hm : D a = 109
  · have l0 := hi a (by omega)
    have hx2 : x = nI 109 := by rw [← hm]; exact ch_dig hx (by omega)
    rw [hx2, if_pos (show nI 109 = 109 from rfl), if_pos (show nI 109 = 109 from rfl)]
    have f1 : Fr (p25 k) σ (zup (zup σ 214 16 (nI (a + 1))) 225 (3 * k) (nI 109)) := Fr.tr (fat (Or.inl rfl)) (fcm (by omega))
    have hF1 : RF (a + 1) (zup (zup σ 214 16 (nI (a + 1))) 225 (3 * k) (nI 109)) := (RF.to hF).ag rfl rfl
    refine r_digit (rt f1) Fr.rf hF1 (by omega) (lo := 0) (by decide) (fun q => ?_) (fun q => ?_)
    · have l1 := hi (a + 1) (by omega)
      have f2 := Fr.tr f1 (Fr.tr (fat (σ := zup (zup σ 214 16 (nI (a + 1))) 225 (3 * k) (nI 109)) (v := nI (a + 1 + 1)) (Or.inl rfl)) (fcm (i := 3 * k + 1) (v := nI (D (a + 1) - 48)) (by omega)))
      have hF2 : RF (a + 2) (zup (zup (zup (zup σ 214 16 (nI (a + 1))) 225 (3 * k) (nI 109)) 214 16 (nI (a + 1 + 1))) 225 (3 * k + 1) (nI (D (a + 1) - 48))) := (RF.to (b := a + 2) hF1).ag rfl rfl
      generalize hs2 : zup (zup (zup (zup σ 214 16 (nI (a + 1))) 225 (3 * k) (nI 109)) 214 16 (nI (a + 1 + 1))) 225 (3 * k + 1) (nI (D (a + 1) - 48)) = σ2 at f2 hF2
      have k0 : σ2 225 (3 * k) = nI 109 := by
        rw [← hs2]
        simp only [zup_eq, zput_app, Nat.reduceEqDiff, ↓reduceIte]
        rw [upd_ne (by omega), upd_eq]
      have k1 : σ2 225 (3 * k + 1) = nI (D (a + 1) - 48) := by
        rw [← hs2]
        simp only [zup_eq, zput_app, Nat.reduceEqDiff, ↓reduceIte, upd_eq]
      rw [r_fine1 hF2, if_neg (by decide)]
      obtain ⟨r2, -⟩ := rt f2
      refine r2 σ2 Fr.rf (a + 2) (by omega) hF2.1 (d + 2) _ (fun y hy => ?_)
      rw [s_in, show (if y < 48 then (0 : Int32) else if 57 < y then 0 else 1) = b2i (decide (48 ≤ D (a + 2) ∧ D (a + 2) ≤ 57)) from in_rng hy (lo := 48) (hi := 57) (by decide) (by decide)]
      by_cases q2 : 48 ≤ D (a + 2) ∧ D (a + 2) ≤ 57
      · have l2 := hi (a + 2) (by omega)
        rw [decide_eq_true q2, if_neg (by decide)]
        refine r_digit (rt f2) Fr.rf hF2 (by omega) (lo := 0) (by decide) (fun _ => ?_) (fun q3 => absurd q2 (fun q4 => q3 ⟨by omega, q4.2⟩))
        rw [k1, show (10 : Int32) * nI (D (a + 1) - 48) = nI (10 * (D (a + 1) - 48)) from zm10 _, nI_add]
        have ep : pAct D a = (true, a + 3, 109, 0, 10 * (D (a + 1) - 48) + (D (a + 2) - 48)) := by
          unfold pAct
          rw [if_pos hm, if_pos (by omega), if_pos q2]
        rw [ep] at h1
        refine h1 rfl _ (Fr.tr f2 (Fr.tr (fat (Or.inl rfl)) (fcm (by omega)))) ⟨?_, ?_, fun q => ?_⟩ ((RF.to (b := a + 3) hF2).ag rfl rfl)
        · rw [ep]
          simp only [zup_eq, zput_app, Nat.reduceEqDiff, ↓reduceIte]
          rw [upd_ne (by omega)]; exact k0
        · rw [ep]
          simp only [zup_eq, zput_app, Nat.reduceEqDiff, ↓reduceIte, upd_eq]
        · rw [ep] at q; exact absurd (show (109 : Nat) = 116 from q) (by decide)
      · rw [decide_eq_false q2, if_pos (by decide)]
        have ep : pAct D a = (true, a + 2, 109, 0, D (a + 1) - 48) := by
          unfold pAct
          rw [if_pos hm, if_pos (by omega), if_neg q2]
        rw [ep] at h1
        refine h1 rfl _ f2 ⟨?_, ?_, fun q => ?_⟩ hF2
        · rw [ep]; exact k0
        · rw [ep, if_pos rfl]; exact k1
        · rw [ep] at q; exact absurd (show (109 : Nat) = 116 from q) (by decide)
    · have ep : pAct D a = (false, a + 1, 0, 0, 0) := by
        unfold pAct
        rw [if_pos hm, if_neg (by omega)]
      rw [ep] at h0
      have hB := RF.bad (p := a + 1) hF1 (L := min T m) (by omega) (by omega)
      have hB2 : RB (min T m) (a + 1) (zup (zup (zup (zup σ 214 16 (nI (a + 1))) 225 (3 * k) (nI 109)) 214 17 (nI (a + 1))) 225 (3 * k + 1) 0) := hB.ag rfl rfl
      rw [r_fine0 hB2, if_pos rfl]
      exact h0 rfl _ (Fr.tr f1 (Fr.tr (fat (Or.inr rfl)) (fcm (by omega)))) (wide hB2)
  · have n109 : ¬ (x = 109) := fun q => hm ((e 109 (by decide)).mp q)
    rw [if_neg n109]
    -- a sign with a letter
    have let4 : ∀ w, (w = 121 ∨ w = 102 ∨ w = 97 ∨ w = 116) → D a = w → (if x = 109 then ZC (d + 3) 187 [.ref 214, .int 0] (zup (zup σ 214 16 (nI (a + 1))) 225 (3 * k) x) (fun v18 s17 => ZC (d + 3) 183 [.ref 214] (zup s17 225 (3 * k + 1) v18) (fun v20 s19 => if v20 = 0 then Q 0 s19 else ZC (d + 3) 182 [.ref 214] s19 (fun v22 s21 => ZC (d + 3) 171 [.int v22, .int 48, .int 57] s21 (fun v24 s23 => if v24 = 0 then Q 0 s23 else ZC (d + 3) 187 [.ref 214, .int 0] s23 (fun v26 s25 => Q 0 (zup s25 225 (3 * k + 1) (10 * s23 225 (3 * k + 1) + v26))))))) else ZC (d + 3) 188 [.ref 214] (zup (zup σ 214 16 (nI (a + 1))) 225 (3 * k) x) (fun v28 s27 => if x = 116 then ZC (d + 3) 187 [.ref 214, .int 0] (zup s27 225 (3 * k + 1) v28) (fun v30 s29 => Q 0 (zup s29 225 (3 * k + 2) v30)) else Q 0 (zup s27 225 (3 * k + 1) v28))) := by
      intro w hw hca
      have l0 := hi a (by omega)
      have hx2 : x = nI w := by rw [← hca]; exact ch_dig hx (by omega)
      rw [if_neg n109]
      have f1 : Fr (p25 k) σ (zup (zup σ 214 16 (nI (a + 1))) 225 (3 * k) x) := Fr.tr (fat (Or.inl rfl)) (fcm (by omega))
      have hF1 : RF (a + 1) (zup (zup σ 214 16 (nI (a + 1))) 225 (3 * k) x) := (RF.to hF).ag rfl rfl
      refine r_letter (rt f1) Fr.rf hF1 (by omega) (fun q => ?_) (fun q => ?_)
      · have l1 := hi (a + 1) (by omega)
        generalize hs2 : zup (zup (zup (zup σ 214 16 (nI (a + 1))) 225 (3 * k) x) 214 16 (nI (a + 1 + 1))) 225 (3 * k + 1) (nI (D (a + 1) - 97)) = σ2
        have f2 : Fr (p25 k) σ σ2 := by
          rw [← hs2]
          exact Fr.tr f1 (Fr.tr (fat (Or.inl rfl)) (fcm (by omega)))
        have hF2 : RF (a + 2) σ2 := by
          rw [← hs2]
          exact (RF.to (b := a + 2) hF1).ag rfl rfl
        have k0 : σ2 225 (3 * k) = nI w := by
          rw [← hs2]
          simp only [zup_eq, zput_app, Nat.reduceEqDiff, ↓reduceIte]
          rw [upd_ne (by omega), upd_eq, hx2]
        have k1 : σ2 225 (3 * k + 1) = nI (D (a + 1) - 97) := by
          rw [← hs2]
          simp only [zup_eq, zput_app, Nat.reduceEqDiff, ↓reduceIte, upd_eq]
        by_cases h116 : D a = 116
        · rw [if_pos (show x = 116 from (e 116 (by decide)).mpr h116)]
          refine r_digit (rt f2) Fr.rf hF2 (by omega) (lo := 0) (by decide) (fun q2 => ?_) (fun q2 => ?_)
          · have l2 := hi (a + 2) (by omega)
            have ep : pAct D a = (true, a + 3, 116, D (a + 1) - 97, D (a + 2) - 48) := by
              unfold pAct
              rw [if_neg hm, if_pos (by omega), if_pos (by omega), if_pos h116, if_pos (by omega)]
            rw [ep] at h1
            refine h1 rfl _ (Fr.tr f2 (Fr.tr (fat (Or.inl rfl)) (fcm (by omega)))) ⟨?_, ?_, fun _ => ?_⟩ ((RF.to (b := a + 3) hF2).ag rfl rfl)
            · rw [ep]
              simp only [zup_eq, zput_app, Nat.reduceEqDiff, ↓reduceIte]
              rw [upd_ne (by omega), k0]
              congr 1; omega
            · rw [ep]
              dsimp only
              rw [if_neg (by decide)]
              simp only [zup_eq, zput_app, Nat.reduceEqDiff, ↓reduceIte]
              rw [upd_ne (by omega)]; exact k1
            · rw [ep]
              simp only [zup_eq, zput_app, Nat.reduceEqDiff, ↓reduceIte, upd_eq]
          · have ep : pAct D a = (false, a + 2, 0, 0, 0) := by
              unfold pAct
              rw [if_neg hm, if_pos (by omega), if_pos (by omega), if_pos h116, if_neg (by omega)]
            rw [ep] at h0
            have hB := RF.bad (p := a + 2) hF2 (L := min T m) (by omega) (by omega)
            exact h0 rfl _ (Fr.tr f2 (Fr.tr (fat (Or.inr rfl)) (fcm (by omega)))) (wide (hB.ag rfl rfl))
        · rw [if_neg (show ¬ (x = 116) from fun q => h116 ((e 116 (by decide)).mp q))]
          have ep : pAct D a = (true, a + 2, D a, D (a + 1) - 97, 0) := by
            unfold pAct
            rw [if_neg hm, if_pos (by omega), if_pos (by omega), if_neg h116]
          rw [ep] at h1
          refine h1 rfl _ f2 ⟨?_, ?_, fun q => ?_⟩ hF2
          · rw [ep, k0, hca]
          · rw [ep, if_neg hm]; exact k1
          · rw [ep] at q; exact absurd q h116
      · have ep : pAct D a = (false, a + 1, 0, 0, 0) := by
          unfold pAct
          rw [if_neg hm, if_pos (by omega), if_neg (by omega)]
        rw [ep] at h0
        have hB := RF.bad (p := a + 1) hF1 (L := min T m) (by omega) (by omega)
        have f2 := Fr.tr f1 (fat (σ := zup (zup σ 214 16 (nI (a + 1))) 225 (3 * k) x) (v := nI (a + 1)) (Or.inr rfl))
        have hB2 : RB (min T m) (a + 1) (zup (zup (zup (zup σ 214 16 (nI (a + 1))) 225 (3 * k) x) 214 17 (nI (a + 1))) 225 (3 * k + 1) 0) := hB.ag rfl rfl
        by_cases h116 : x = 116
        · rw [if_pos h116, r_digitB hB2]
          exact h0 rfl _ (Fr.tr f2 (Fr.tr (fcm (by omega)) (fcm (by omega)))) (wide (hB2.ag rfl rfl))
        · rw [if_neg h116]
          exact h0 rfl _ (Fr.tr f2 (fcm (by omega))) (wide hB2)
    by_cases h121 : D a = 121
    · rw [if_pos (show x = 121 from (e 121 (by decide)).mpr h121)]
      exact let4 121 (Or.inl rfl) h121
    rw [if_neg (show ¬ (x = 121) from fun q => h121 ((e 121 (by decide)).mp q))]
    by_cases h102 : D a = 102
    · rw [if_pos (show x = 102 from (e 102 (by decide)).mpr h102)]
      exact let4 102 (Or.inr (Or.inl rfl)) h102
    rw [if_neg (show ¬ (x = 102) from fun q => h102 ((e 102 (by decide)).mp q))]
    by_cases h97 : D a = 97
    · rw [if_pos (show x = 97 from (e 97 (by decide)).mpr h97)]
      exact let4 97 (Or.inr (Or.inr (Or.inl rfl))) h97
    rw [if_neg (show ¬ (x = 97) from fun q => h97 ((e 97 (by decide)).mp q))]
    by_cases h116 : D a = 116
    · rw [if_pos (show x = 116 from (e 116 (by decide)).mpr h116)]
      exact let4 116 (Or.inr (Or.inr (Or.inr rfl))) h116
    have n116 : ¬ (x = 116) := fun q => h116 ((e 116 (by decide)).mp q)
    rw [if_neg n116, r_fault hF.2, if_neg n109, show (zup σ 214 17 (nI a)) 214 16 = nI a from hF.1, show nI a + (1 : Int32) = nI (a + 1) from nI_add a 1]
    have ep : pAct D a = (false, a, 0, 0, 0) := by
      unfold pAct
      rw [if_neg hm, if_neg (by omega)]
    rw [ep] at h0
    have hB : RB (min T m + 1) a (zup (zup (zup σ 214 17 (nI a)) 214 16 (nI (a + 1))) 225 (3 * k) x) := ⟨rfl, by omega, a + 1, by omega, rfl⟩
    rw [r_letterB hB, if_neg n116]
    exact h0 rfl _ (Fr.tr (fat (Or.inr rfl)) (Fr.tr (fat (Or.inl rfl)) (Fr.tr (fcm (by omega)) (fcm (by omega))))) (hB.ag rfl rfl)
