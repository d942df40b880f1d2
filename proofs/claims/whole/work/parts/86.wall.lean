/-! lines of THE WALL: what they say; the class reads them -/
def pLet (C : Nat → Nat) : Nat → Nat → Nat → Int32 → Nat × Int32
  | 0, a, _, b => (a, b)
  | n + 1, a, last, b => if 97 + (last + 1) ≤ C a ∧ C a ≤ 105 then pLet C n (a + 1) (C a - 97) (b ||| zshl 1 (nI (C a - 97))) else (a, b)
theorem pLet_1 (C : Nat → Nat) (n a last : Nat) (b : Int32) : pLet C (n + 1) a last b = if 97 + (last + 1) ≤ C a ∧ C a ≤ 105 then pLet C n (a + 1) (C a - 97) (b ||| zshl 1 (nI (C a - 97))) else (a, b) := rfl
def pLn (C : Nat → Nat) (a : Nat) : Bool × Nat × Nat × Nat × Int32 :=
  if 48 ≤ C a ∧ C a ≤ 57 then (if C (a + 1) = 47 then (if 49 ≤ C (a + 2) ∧ C (a + 2) ≤ 57 then (if C (a + 3) = 62 then
    (if 97 ≤ C (a + 4) ∧ C (a + 4) ≤ 105 then (true, (pLet C 9 (a + 5) (C (a + 4) - 97) (zshl 1 (nI (C (a + 4) - 97)))).1, C a - 48, C (a + 2) - 48, (pLet C 9 (a + 5) (C (a + 4) - 97) (zshl 1 (nI (C (a + 4) - 97)))).2)
    else (false, a + 4, 0, 0, 0)) else (true, a + 3, C a - 48, C (a + 2) - 48, 0)) else (false, a + 2, 0, 0, 0)) else (false, a + 1, 0, 0, 0)) else (false, a, 0, 0, 0)
theorem pLet_le {C : Nat → Nat} {L : Nat} (hC : ∀ i, L ≤ i → C i = 999) : ∀ n a last b, a ≤ L → a ≤ (pLet C n a last b).1 ∧ (pLet C n a last b).1 ≤ L := by
  intro n
  induction n with
  | zero => intro a last b h; exact ⟨Nat.le_refl a, h⟩
  | succ n ih =>
    intro a last b h
    rw [pLet_1]
    split
    · rename_i q
      have := inL (L := L) hC (a := a) (by omega)
      have := ih (a + 1) (C a - 97) (b ||| zshl 1 (nI (C a - 97))) (by omega)
      omega
    · exact ⟨Nat.le_refl a, h⟩
theorem pLet_zb {C : Nat → Nat} {f : Nat} : ∀ n a last b, zb b f = true → zb (pLet C n a last b).2 f = true := by
  intro n
  induction n with
  | zero => intro a last b h; exact h
  | succ n ih =>
    intro a last b h
    rw [pLet_1]
    split
    · exact ih _ _ _ (by rw [zb_or, h]; rfl)
    · exact h
theorem pLn_le {C : Nat → Nat} {L : Nat} (hC : ∀ i, L ≤ i → C i = 999) {a : Nat} (ha : a ≤ L) : a ≤ (pLn C a).2.1 ∧ (pLn C a).2.1 ≤ L ∧ ((pLn C a).1 = true → a + 3 ≤ (pLn C a).2.1 ∧ (pLn C a).2.2.1 ≤ 9 ∧ a < L ∧ 1 ≤ (pLn C a).2.2.2.1 ∧ (pLn C a).2.2.2.1 ≤ 9) := by
  unfold pLn
  by_cases h0 : 48 ≤ C a ∧ C a ≤ 57
  · have l0 := inL (L := L) hC (a := a) (by omega)
    rw [if_pos h0]
    by_cases h1 : C (a + 1) = 47
    · have l1 := inL (L := L) hC (a := a + 1) (by omega)
      rw [if_pos h1]
      by_cases h2 : 49 ≤ C (a + 2) ∧ C (a + 2) ≤ 57
      · have l2 := inL (L := L) hC (a := a + 2) (by omega)
        rw [if_pos h2]
        by_cases h3 : C (a + 3) = 62
        · have l3 := inL (L := L) hC (a := a + 3) (by omega)
          rw [if_pos h3]
          by_cases h4 : 97 ≤ C (a + 4) ∧ C (a + 4) ≤ 105
          · have l4 := inL (L := L) hC (a := a + 4) (by omega)
            rw [if_pos h4]
            have := pLet_le hC 9 (a + 5) (C (a + 4) - 97) (zshl 1 (nI (C (a + 4) - 97))) (by omega)
            refine ⟨?_, ?_, fun _ => ⟨?_, ?_, l0, by show 1 ≤ C (a + 2) - 48; omega, by show C (a + 2) - 48 ≤ 9; omega⟩⟩
            · show a ≤ (pLet C 9 (a + 5) _ _).1; omega
            · show (pLet C 9 (a + 5) _ _).1 ≤ L; omega
            · show a + 3 ≤ (pLet C 9 (a + 5) _ _).1; omega
            · show C a - 48 ≤ 9; omega
          · rw [if_neg h4]
            exact ⟨by show a ≤ a + 4; omega, by show a + 4 ≤ L; omega, fun q => by cases q⟩
        · rw [if_neg h3]
          exact ⟨by show a ≤ a + 3; omega, by show a + 3 ≤ L; omega, fun _ => ⟨Nat.le_refl _, by show C a - 48 ≤ 9; omega, l0, by show 1 ≤ C (a + 2) - 48; omega, by show C (a + 2) - 48 ≤ 9; omega⟩⟩
      · rw [if_neg h2]
        exact ⟨by show a ≤ a + 2; omega, by show a + 2 ≤ L; omega, fun q => by cases q⟩
    · rw [if_neg h1]
      exact ⟨by show a ≤ a + 1; omega, by show a + 1 ≤ L; omega, fun q => by cases q⟩
  · rw [if_neg h0]
    exact ⟨Nat.le_refl a, ha, fun q => by cases q⟩
def p1w (o i : Nat) : Bool := decide (o = 1 ∧ i = 2)
theorem c_lettersLoop {C : Nat → Nat} {L : Nat} (hC : ∀ i, L ≤ i → C i = 999) {d : Nat} {Q : Int32 → zS → Prop} : ∀ n a last k b (σ : zS), 8 ≤ n + last → last ≤ 8 → k ≤ last → TC C L a σ → (∀ σ', Fr p1w σ σ' → TC C L (pLet C n a last (b ||| zshl 1 (nI last))).1 σ' → Q (pLet C n a last (b ||| zshl 1 (nI last))).2 σ') → Z (d + 3) 143 Q 13 [.ref 0, .int b, .int (nI last), .int (nI k)] [] σ := by
  intro n
  induction n with
  | zero =>
    intro a last k b σ h8 hl hk ht hq
    have : last = 8 := by omega
    subst this
    refine k_143_13 ?_
    rw [if_pos (show nI k < 9 from nI_lt (b := 9) (by omega) (by decide)), if_neg (by decide), s_bit, show nI 8 + (1 : Int32) = nI 9 from rfl, show nI k + (1 : Int32) = nI (k + 1) from nI_add k 1]
    refine c_letter ht (lo := 9) (by decide) (fun q => ?_) (fun _ => ?_)
    · omega
    · refine k_143_13 ?_
      have hq' := hq σ Fr.rf ht
      by_cases q : nI (k + 1) < 9
      · rw [if_pos q, if_pos rfl]; exact hq'
      · rw [if_neg q]; exact hq'
  | succ n ih =>
    intro a last k b σ h8 hl hk ht hq
    refine k_143_13 ?_
    rw [if_pos (show nI k < 9 from nI_lt (b := 9) (by omega) (by decide)), if_neg (nI_m1 (by omega)), s_bit, show nI last + (1 : Int32) = nI (last + 1) from nI_add last 1, show nI k + (1 : Int32) = nI (k + 1) from nI_add k 1]
    rw [pLet_1] at hq
    refine c_letter ht (lo := last + 1) (by omega) (fun q => ?_) (fun q => ?_)
    · rw [if_pos q] at hq
      have haL := inL (L := L) hC (a := a) (by omega)
      refine ih (a + 1) (C a - 97) (k + 1) (b ||| zshl 1 (nI last)) _ (by omega) (by omega) (by omega) (TC.to ht haL) (fun σ' f' t' => hq σ' (Fr.tr (Fr.up (by decide)) f') t')
    · rw [if_neg q] at hq
      refine k_143_13 ?_
      have hq' := hq σ Fr.rf ht
      by_cases q : nI (k + 1) < 9
      · rw [if_pos q, if_pos rfl]; exact hq'
      · rw [if_neg q]; exact hq'
theorem c_letters {C : Nat → Nat} {L a d : Nat} (hC : ∀ i, L ≤ i → C i = 999) {σ : zS} (ht : TC C L a σ) {Q : Int32 → zS → Prop}
    (h1 : 97 ≤ C a ∧ C a ≤ 105 → ∀ σ', Fr p1w σ σ' → TC C L (pLet C 9 (a + 1) (C a - 97) (zshl 1 (nI (C a - 97)))).1 σ' → Q (pLet C 9 (a + 1) (C a - 97) (zshl 1 (nI (C a - 97)))).2 σ') (h0 : ¬ (97 ≤ C a ∧ C a ≤ 105) → Q 0 σ) : ZC (d + 4) 143 [.ref 0] σ Q := by
  refine k_143_0 ?_
  refine c_letter ht (lo := 0) (by decide) (fun q => ?_) (fun q => ?_)
  · have haL := inL (L := L) hC (a := a) (by omega)
    refine c_lettersLoop hC 9 (a + 1) (C a - 97) 0 0 _ (by omega) (by omega) (Nat.zero_le _) (TC.to ht haL) (fun σ' f' t' => ?_)
    rw [Int32.zero_or] at t' ⊢
    exact h1 ⟨by omega, q.2⟩ σ' (Fr.tr (Fr.up (by decide)) f') t'
  · refine k_143_13 ?_
    rw [if_pos (by decide), if_pos rfl]
    exact h0 (fun q2 => q ⟨by omega, q2.2⟩)
def pWl (F o i : Nat) : Bool := decide ((o = 1 ∧ i = 2) ∨ ((o = 15 ∨ o = 16 ∨ o = 18) ∧ F ≤ i))
theorem c_readLine {C : Nat → Nat} {L a d x : Nat} (hC : ∀ i, L ≤ i → C i = 999) {σ : zS} (ht : TC C L a σ) (hx : x < 9) {Q : Int32 → zS → Prop}
    (h1 : (pLn C a).1 = true → ∀ σ', Fr p1w σ σ' → TC C L (pLn C a).2.1 σ' → Q 1 (zup (zup (zup σ' 18 x (nI (pLn C a).2.2.1)) 15 x (nI (pLn C a).2.2.2.1)) 16 x (pLn C a).2.2.2.2))
    (h0 : (pLn C a).1 = false → ∀ σ', Fr p1w σ σ' → TC C L (pLn C a).2.1 σ' → Q 0 σ') : ZC (d + 5) 142 [.ref 0, .int (nI x)] σ Q := by
  have ne10 : ∀ k, k < 10 → ¬ (nI k = -1) := by decide
  have s12 : ∀ {σ : zS} {v : Int32}, Fr p1w σ (zup σ 1 2 v) := Fr.up (by decide)
  refine k_142_0 ?_
  rw [if_neg (nI_pos (by omega)), if_pos (show nI x < 9 from nI_lt (b := 9) hx (by decide))]
  have hz9 : zin (nI x) 9 = true := zin_nI (by omega) (by decide)
  unfold pLn at h1 h0
  refine c_digit ht (lo := 0) (by decide) (fun q => ?_) (fun q => ?_)
  · have l0 := inL (L := L) hC (a := a) (by omega)
    have t1 := TC.to ht (b := a + 1) l0
    rw [if_pos (show 48 ≤ C a ∧ C a ≤ 57 by omega)] at h1 h0
    rw [if_neg (ne10 _ (by omega))]
    refine c_pick t1 (c := 47) (by decide) (fun q1 => ?_) (fun q1 => ?_)
    · have l1 := inL (L := L) hC (a := a + 1) (by omega)
      have t2 := TC.to t1 (b := a + 2) l1
      rw [if_pos q1] at h1 h0
      rw [if_neg (by decide)]
      refine c_digit t2 (lo := 1) (by decide) (fun q2 => ?_) (fun q2 => ?_)
      · have l2 := inL (L := L) hC (a := a + 2) (by omega)
        have t3 := TC.to t2 (b := a + 3) l2
        rw [if_pos (show 49 ≤ C (a + 2) ∧ C (a + 2) ≤ 57 by omega)] at h1 h0
        rw [if_neg (ne10 _ (by omega))]
        refine c_pick t3 (c := 62) (by decide) (fun q3 => ?_) (fun q3 => ?_)
        · have l3 := inL (L := L) hC (a := a + 3) (by omega)
          have t4 := TC.to t3 (b := a + 4) l3
          rw [if_pos q3] at h1 h0
          rw [if_neg (by decide)]
          refine c_letters hC t4 (fun q4 σ' f' t' => ?_) (fun q4 => ?_)
          · rw [if_pos q4] at h1 h0
            have hz : ¬ ((pLet C 9 (a + 5) (C (a + 4) - 97) (zshl 1 (nI (C (a + 4) - 97)))).2 = 0) := by
              intro e
              have := pLet_zb (C := C) (f := C (a + 4) - 97) 9 (a + 5) (C (a + 4) - 97) (zshl 1 (nI (C (a + 4) - 97))) (by rw [zb_one _ (by omega) _ (by omega)]; exact decide_eq_true rfl)
              rw [e, zb_0] at this
              cases this
            rw [if_neg hz, if_pos hz9, if_pos hz9, if_pos hz9, zcl (by omega)]
            exact h1 rfl σ' (Fr.tr s12 (Fr.tr s12 (Fr.tr s12 (Fr.tr s12 f')))) t'
          · rw [if_neg q4] at h1 h0
            rw [if_pos rfl]
            exact h0 rfl _ (Fr.tr s12 (Fr.tr s12 (Fr.tr s12 s12))) t4
        · rw [if_neg q3] at h1 h0
          rw [if_pos rfl, if_pos hz9, if_pos hz9, if_pos hz9, zcl (by omega)]
          exact h1 rfl _ (Fr.tr s12 (Fr.tr s12 s12)) t3
      · rw [if_neg (show ¬ (49 ≤ C (a + 2) ∧ C (a + 2) ≤ 57) by omega)] at h1 h0
        rw [if_pos rfl]
        exact h0 rfl _ (Fr.tr s12 s12) t2
    · rw [if_neg q1] at h1 h0
      rw [if_pos rfl]
      exact h0 rfl _ s12 t1
  · rw [if_neg (show ¬ (48 ≤ C a ∧ C a ≤ 57) by omega)] at h1 h0
    rw [if_pos rfl]
    exact h0 rfl _ Fr.rf ht
