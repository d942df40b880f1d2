/-! end; judges -/
def dTs (o i : Nat) : Bool := scr o i || dText o i
def dJs (o i : Nat) : Bool := scr o i || dJd o i
theorem Inv.texted {b : Nat} {σ σ' : zS} (h : Inv b σ) (hf : Fr dTs σ σ') (hc : pText σ') : Inv b σ' := by
  obtain ⟨F, l, W, h1, h2, h3, h4, h5, h6, h7, h8, h9, h10, h11, h12⟩ := h
  have fin : ∀ dep : Nat → Nat → Bool, (∀ o i, dep o i = true → dTs o i = false) → AG dep σ σ' := fun dep q => AG.of hf q
  refine ⟨F, l, W, pWall.ag (fin dWall ?_) h1, pRow.ag (fin dRow ?_) h2, pRule.ag (fin dRule ?_) h3, pWind.ag (fin dWind ?_) h4, hc, pJd.ag (fin dJd ?_) h6, pTold.ag (fin dTold ?_) h7, pCrew.ag (fin dCrew ?_) h8, pSeen.ag (fin dSeen ?_) h9, pPast.ag (fin dPast ?_) h10, pKept.ag (fin dKept ?_) h11, (hf 214 7 (by decide)).trans h12⟩
  all_goals
    intro o i q
    simp only [dWall, dRow, dRule, dWind, dText, dJd, dCrew, dSeen, dPast, dKept, dTs, scr, dTold, decide_eq_true_eq, decide_eq_false_iff_not, Bool.or_eq_false_iff] at q ⊢
    omega
theorem Inv.judged {b : Nat} {σ σ' : zS} (h : Inv b σ) (hf : Fr dJs σ σ') (hc : pJd σ') : Inv b σ' := by
  obtain ⟨F, l, W, h1, h2, h3, h4, h5, h6, h7, h8, h9, h10, h11, h12⟩ := h
  have fin : ∀ dep : Nat → Nat → Bool, (∀ o i, dep o i = true → dJs o i = false) → AG dep σ σ' := fun dep q => AG.of hf q
  refine ⟨F, l, W, pWall.ag (fin dWall ?_) h1, pRow.ag (fin dRow ?_) h2, pRule.ag (fin dRule ?_) h3, pWind.ag (fin dWind ?_) h4, pText.ag (fin dText ?_) h5, hc, pTold.ag (fin dTold ?_) h7, pCrew.ag (fin dCrew ?_) h8, pSeen.ag (fin dSeen ?_) h9, pPast.ag (fin dPast ?_) h10, pKept.ag (fin dKept ?_) h11, (hf 214 7 (by decide)).trans h12⟩
  all_goals
    intro o i q
    simp only [dWall, dRow, dRule, dWind, dText, dJd, dCrew, dSeen, dPast, dKept, dJs, scr, dTold, decide_eq_true_eq, decide_eq_false_iff_not, Bool.or_eq_false_iff] at q ⊢
    omega
theorem Inv.htext {b : Nat} {σ : zS} (h : Inv b σ) : pText σ := by
  obtain ⟨F, l, W, -, -, -, -, h5, -⟩ := h
  exact h5
theorem call_end {d e b : Nat} {σ : zS} (x : Int32) (h : Inv b σ) : Both (d + 2) 83 [.ref 0, .int x] (e + 2) 180 [.ref 214, .int x] b σ := by
  obtain ⟨T, hT, t1, t2, t3⟩ := h.htext
  rcases rng0 x (nI T) (n := T) (by omega) rfl with hx | ⟨k, hk, ek, u1, u2⟩
  · refine both_q h 0 none (fun Q hq => ?_) (fun σ3 f3 Q hq => ?_)
    · refine k_83_0 ?_
      rw [t1]
      rcases hx with hx | hx
      · rw [if_pos hx]; exact hq σ Fr.rf
      · by_cases h0 : x < 0
        · rw [if_pos h0]; exact hq σ Fr.rf
        · rw [if_neg h0, if_pos hx]; exact hq σ Fr.rf
    · refine k_180_0 ?_
      rw [(f3 214 9 (by decide)).trans t2, s_in0 hx, if_pos rfl]
      exact hq _ fr12
  · refine k_83_0 ?_
    rw [t1, if_neg u1, if_neg u2]
    refine k_180_0 ?_
    rw [show (zup σ 1 1 x) 214 9 = nI T from t2, s_in, if_neg u1, if_neg u2, if_neg (by decide)]
    refine ⟨rfl, Inv.texted h (Fr.tr (Fr.up (by decide)) (Fr.tr (Fr.up (by decide)) (Fr.up (by decide)))) ⟨k, by omega, ?_, ?_, fun i hi => ?_⟩⟩
    · simp (disch := omega) only [zup_eq, zput_app, zput_twice, upd_same, nI_1, za2, zA2, zm2, za3, zA3, zm3, za4, zA4, zm4, za9, zA9, zm9, za10, zA10, zm10, za18, zA18, zm18, za27, zA27, zm27, za36, zA36, zm36, za48, zA48, zm48, za288, zA288, zm288, zcl, zinT, upd_ne, upd_eq, zlt, znlt, zl2, zn2_, zl3, zn3_, zl5, zn5_, zl9, zn9_, zl10, zn10_, zl16, zn16_, zl20, zn20_, zl40, zn40_, zl60, zn60_, zl76, zn76_, zl80, zn80_, zl288, zn288_, zl300, zn300_, zneg, Nat.reduceEqDiff, Nat.reduceAdd, ↓reduceIte]; exact ek
    · simp (disch := omega) only [zup_eq, zput_app, zput_twice, upd_same, nI_1, za2, zA2, zm2, za3, zA3, zm3, za4, zA4, zm4, za9, zA9, zm9, za10, zA10, zm10, za18, zA18, zm18, za27, zA27, zm27, za36, zA36, zm36, za48, zA48, zm48, za288, zA288, zm288, zcl, zinT, upd_ne, upd_eq, zlt, znlt, zl2, zn2_, zl3, zn3_, zl5, zn5_, zl9, zn9_, zl10, zn10_, zl16, zn16_, zl20, zn20_, zl40, zn40_, zl60, zn60_, zl76, zn76_, zl80, zn80_, zl288, zn288_, zl300, zn300_, zneg, Nat.reduceEqDiff, Nat.reduceAdd, ↓reduceIte]; exact ek
    · simp (disch := omega) only [zup_eq, zput_app, zput_twice, upd_same, nI_1, za2, zA2, zm2, za3, zA3, zm3, za4, zA4, zm4, za9, zA9, zm9, za10, zA10, zm10, za18, zA18, zm18, za27, zA27, zm27, za36, zA36, zm36, za48, zA48, zm48, za288, zA288, zm288, zcl, zinT, upd_ne, upd_eq, zlt, znlt, zl2, zn2_, zl3, zn3_, zl5, zn5_, zl9, zn9_, zl10, zn10_, zl16, zn16_, zl20, zn20_, zl40, zn40_, zl60, zn60_, zl76, zn76_, zl80, zn80_, zl288, zn288_, zl300, zn300_, zneg, Nat.reduceEqDiff, Nat.reduceAdd, ↓reduceIte]; exact t3 i hi
theorem allF : ∀ F, F ≤ 9 → zshl 1 (nI F) - 1 = nI (2 ^ F - 1) := by decide +kernel
theorem jdg {x : Int32} {F : Nat} (h9 : F ≤ 9) (h0 : ¬ x < 0) : (x &&& ((zshl 1 (nI F) - 1) ^^^ (-1)) = 0) = ¬ (zshl 1 (nI F) - 1 < x) := by
  obtain ⟨n, hn, rfl⟩ := nI_of h0
  have hp : 2 ^ F ≤ 512 := by
    have : (2 : Nat) ^ F ≤ 2 ^ 9 := Nat.pow_le_pow_right (by decide) h9
    omega
  have hp0 : 0 < 2 ^ F := Nat.two_pow_pos F
  have e2 : ¬ (zshl 1 (nI F) - 1 < nI n) ↔ n < 2 ^ F := by
    rw [allF F h9, nI_ltI (by omega) hn]
    omega
  rw [eq_iff_iff, e2]
  constructor
  · intro h
    refine Nat.lt_pow_two_of_testBit n (fun i hi => ?_)
    by_cases h32 : i < 32
    · have h3 : zb (nI n &&& ((zshl 1 (nI F) - 1) ^^^ (-1))) i = false := by rw [h, zb_0]
      rw [zb_and, zb_not h32, zb_all F h9 i h32, zb_nI h32, decide_eq_false (by omega)] at h3
      simpa using h3
    · exact Nat.testBit_lt_two_pow (Nat.lt_of_lt_of_le hn (Nat.pow_le_pow_right (by decide) (by omega)))
  · intro h
    refine zb_ext (fun i hi => ?_)
    rw [zb_and, zb_not hi, zb_all F h9 i hi, zb_nI hi, zb_0]
    by_cases hF : i < F
    · rw [decide_eq_true hF, Bool.not_true, Bool.and_false]
    · rw [tb_pow h (by omega), Bool.false_and]
theorem call_judges {d e b : Nat} {σ : zS} (x : Int32) (h : Inv b σ) : Both (d + 5) 90 [.ref 0, .int x] (e + 4) 204 [.ref 214, .int x] b σ := by
  obtain ⟨c, l, t, ht, hc⟩ := h.ctx
  have h9 := hc.h9
  have hA : ∀ σ3, Fr tC σ σ3 → zshl 1 ((zup σ3 214 12 0) 214 1) - 1 = zshl 1 (nI c.1) - 1 := fun σ3 f3 => by
    rw [(fr12 (σ := σ3) 214 1 (by decide)).trans ((f3 214 1 (by decide)).trans hc.hR)]
  by_cases h0 : x < 0
  · refine both_q h (-1) none (fun Q hq => ?_) (fun σ3 f3 Q hq => ?_)
    · refine k_90_0 ?_
      rw [if_pos h0]
      exact hq σ Fr.rf
    · refine k_204_0 ?_
      rw [r_all, hA σ3 f3, s_in0 (Or.inl h0), if_pos rfl]
      exact hq _ fr12
  by_cases h1 : zshl 1 (nI c.1) - 1 < x
  · refine both_q h (-1) none (fun Q hq => ?_) (fun σ3 f3 Q hq => ?_)
    · refine k_90_0 ?_
      rw [if_neg h0, c_everybody14, hc.h14, if_neg (by rw [jdg h9 h0]; exact fun q => q h1)]
      exact hq σ Fr.rf
    · refine k_204_0 ?_
      rw [r_all, hA σ3 f3, s_in0 (Or.inr h1), if_pos rfl]
      exact hq _ fr12
  · refine k_90_0 ?_
    rw [if_neg h0, c_everybody14, hc.h14, if_pos (by rw [jdg h9 h0]; exact h1), c_sightOf14 (F := c.1) (show (zup σ 0 13 x) 14 3 = nI c.1 from hc.h14) h9, s_bitCount]
    refine k_204_0 ?_
    rw [r_all, show (zup (zup σ 0 13 x) 214 12 0) 214 1 = nI c.1 from hc.hR, s_in, if_neg h0, if_neg h1, if_neg (by decide), r_seenBy (F := c.1) (show (zup (zup (zup σ 0 13 x) 214 12 0) 214 4 x) 214 1 = nI c.1 from hc.hR) h9, s_bitCount]
    refine ⟨?_, Inv.judged h (Fr.tr (Fr.up (by decide)) (Fr.tr (Fr.up (by decide)) (Fr.up (by decide)))) ?_⟩
    · rw [show (zup σ 0 13 x) 16 = σ 16 from rfl, show (zup (zup (zup σ 0 13 x) 214 12 0) 214 4 x) 217 = σ 217 from rfl]
      rw [so_cong (S := σ 16) (S' := σ 217) c.1 (fun f hf => ((hc.2.2.1.2.2.1 f hf).2).trans (by rw [hc.2.2.2.2.2.2.2.1.2.2.1]))]
    · unfold pJd
      simp (disch := omega) only [zup_eq, zput_app, zput_twice, upd_same, nI_1, za2, zA2, zm2, za3, zA3, zm3, za4, zA4, zm4, za9, zA9, zm9, za10, zA10, zm10, za18, zA18, zm18, za27, zA27, zm27, za36, zA36, zm36, za48, zA48, zm48, za288, zA288, zm288, zcl, zinT, upd_ne, upd_eq, zlt, znlt, zl2, zn2_, zl3, zn3_, zl5, zn5_, zl9, zn9_, zl10, zn10_, zl16, zn16_, zl20, zn20_, zl40, zn40_, zl60, zn60_, zl76, zn76_, zl80, zn80_, zl288, zn288_, zl300, zn300_, zneg, Nat.reduceEqDiff, Nat.reduceAdd, ↓reduceIte]
