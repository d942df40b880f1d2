theorem call_keep {d e b : Nat} {σ : zS} (x : Int32) (h : Inv b σ) : Both (d + 3) 127 [.ref 0, .int x] (e + 2) 270 [.ref 214, .int x] b σ := by
  rcases rng0 x 1 (n := 1) (by decide) rfl with hx | ⟨k, hk, rfl, -, -⟩
  · refine both_q h 0 none (fun Q hq => ?_) (fun σ3 f3 Q hq => ?_)
    · refine k_127_0 ?_
      rw [show (Value.int (Int32.ofNat 2 - 1)) = .int 1 from rfl, s_isIn0 hx, if_pos rfl]
      exact hq σ Fr.rf
    · refine k_270_0 ?_
      rw [s_in0 hx, if_pos rfl]
      exact hq _ fr12
  · have h2 : k = 0 ∨ k = 1 := by omega
    rcases h2 with rfl | rfl
    · exact keep_0 h
    · exact keep_1 h
/-! again -/
def dAs (o i : Nat) : Bool := scr o i || (dRow o i || dPast o i)
theorem Inv.rowed {b : Nat} {σ σ' : zS} (h : Inv b σ) (hf : Fr dAs σ σ') (hp : ∀ F, pWall F σ → pRow F b σ → pKept F b σ → pPast F b σ → pRow F b σ' ∧ pPast F b σ') : Inv b σ' := by
  obtain ⟨F, l, W, h1, h2, h3, h4, h5, h6, h7, h8, h9, h10, h11, h12⟩ := h
  have fin : ∀ dep : Nat → Nat → Bool, (∀ o i, dep o i = true → dAs o i = false) → AG dep σ σ' := fun dep q => AG.of hf q
  obtain ⟨g1, g2⟩ := hp F h1 h2 h11 h10
  refine ⟨F, l, W, pWall.ag (fin dWall ?_) h1, g1, pRule.ag (fin dRule ?_) h3, pWind.ag (fin dWind ?_) h4, pText.ag (fin dText ?_) h5, pJd.ag (fin dJd ?_) h6, pTold.ag (fin dTold ?_) h7, pCrew.ag (fin dCrew ?_) h8, pSeen.ag (fin dSeen ?_) h9, g2, pKept.ag (fin dKept ?_) h11, (hf 214 7 (by decide)).trans h12⟩
  all_goals
    intro o i q
    simp only [dWall, dRow, dRule, dWind, dText, dJd, dCrew, dSeen, dPast, dKept, dAs, scr, dTold, decide_eq_true_eq, decide_eq_false_iff_not, Bool.or_eq_false_iff] at q ⊢
    omega
theorem dAs_o {o : Nat} (h : (17 ≤ o ∧ o ≤ 21) ∨ o = 215 ∨ (32 ≤ o ∧ o ≤ 36)) (i : Nat) : dAs o i = true := by
  unfold dAs dRow
  rw [Bool.or_eq_true, Bool.or_eq_true]
  exact Or.inr (Or.inl (decide_eq_true (by omega)))
theorem again_0 {d e b : Nat} {σ : zS} (h : Inv b σ) : Both (d + 3) 128 [.ref 0, .int (nI 0)] (e + 2) 271 [.ref 214, .int (nI 0)] b σ := by
  have hi := h
  obtain ⟨F, l, W, hw, -, -, -, -, -, -, -, -, -, ⟨m, m1, m2, m3⟩, -⟩ := hi
  have h9 : F ≤ 9 := hw.1
  have hF := hw.2.1
  have cpre : ∀ Q : Int32 → zS → Prop, (if σ 192 0 = 0 then Q 0 σ else Z (d + 2) 128 Q 44 [.ref 0, .int (nI 0)] [.ref 192] σ) → ZC (d + 3) 128 [.ref 0, .int (nI 0)] σ Q := by
    intro Q hq
    refine k_128_0 ?_
    rw [show (Value.int (Int32.ofNat 2 - 1)) = .int (nI 1) from rfl, show (Value.int 0) = .int (nI 0) from rfl, s_isIn1 (by decide) (by decide) (by decide), if_neg (by decide), if_pos (zin_nI (by decide) (by decide)), zcl (by decide)]
    refine k_128_21_192 ?_
    rw [if_pos (zin_nI (by decide) (by decide)), zcl (by decide)]
    refine k_128_32_192 ?_
    rw [if_pos (zin_nI (by decide) (by decide)), zcl (by decide)]
    exact hq
  have rpre : ∀ (σ3 : zS) (Q : Int32 → zS → Prop), (if σ3 235 0 = 0 then Q 0 (zup σ3 214 12 0) else (if σ3 236 0 = σ3 214 47 then Z (e + 1) 271 Q 40 [.ref 214, .int (nI 0), .int 0] [] (zup σ3 214 12 0) else Q 0 (zup σ3 214 12 0))) → ZC (e + 2) 271 [.ref 214, .int (nI 0)] σ3 Q := by
    intro σ3 Q hq
    refine k_271_0 ?_
    rw [show (Value.int 0) = .int (nI 0) from rfl, show (Value.int 1) = .int (nI 1) from rfl, s_in1 (by decide) (by decide) (by decide), if_neg (by decide), if_pos (zin_nI (by decide) (by decide)), if_pos (zin_nI (by decide) (by decide)), zcl (by decide)]
    exact hq
  rcases m3 0 (by decide) with ⟨q1, q2⟩ | ⟨q1, q2, G, n, q3, q4, q5, q6, q7, ⟨s1, s2, t, s3, s4⟩⟩
  · refine both_q h 0 none (fun Q hq => ?_) (fun σ3 f3 Q hq => ?_)
    · refine cpre Q ?_
      rw [if_pos q1]
      exact hq σ Fr.rf
    · refine rpre σ3 Q ?_
      rw [if_pos ((f3 235 _ (by simp [tC])).trans q2)]
      exact hq _ fr12
  by_cases hG : G = F
  · have hn : n = m := q5.mp hG
    subst hG
    subst hn
    refine cpre _ ?_
    rw [if_neg (by rw [show σ 192 0 = 1 from q1]; decide)]
    refine k_128_44_192 ?_
    rw [if_pos (show σ 192 1 = σ 14 3 from q6.trans hF.symm), if_pos (zin_nI (by decide) (by decide)), zcl (by decide)]
    refine k_128_65_192 ?_
    refine k_24_0_i192_14_32 ?_
    refine c_mtake17_193 (fun σ1 f1 g1 => ?_)
    refine c_btake32_198 (fun σ2 f2 g2 => ?_)
    generalize hs3 : zup σ2 37 0 0 = σ3
    have fo : ∀ o i, ¬ (17 ≤ o ∧ o ≤ 21) → ¬ (32 ≤ o ∧ o ≤ 37) → σ3 o i = σ o i := fun o i p1 p2 => by
      rw [← hs3]
      simp only [zup_eq, zput_app]
      rw [if_neg (by omega)]
      exact (f2 o i (decide_eq_false (by omega))).trans (f1 o i (decide_eq_false (by omega)))
    have fo2 : ∀ o i, o ≠ 37 → σ3 o i = σ2 o i := fun o i p1 => by
      rw [← hs3]
      simp only [zup_eq, zput_app]
      rw [if_neg p1]
    have f03 : Fr dAs σ σ3 := by
      rw [← hs3]
      refine Fr.tr (Fr.mono f1 (fun o i q => ?_)) (Fr.tr (Fr.mono f2 (fun o i q => ?_)) (Fr.up (by decide)))
      · refine decide_eq_false (fun h => ?_)
        rw [dAs_o (by omega)] at q; cases q
      · refine decide_eq_false (fun h => ?_)
        rw [dAs_o (by omega)] at q; cases q
    have c17 : CM 17 G (fun i => σ 234 (288 * 0 + i)) σ3 := CM.ag (CM.copy h9 g1 s1) (fun o i p1 p2 => (fo2 o i (by omega)).trans (f2 o i (decide_eq_false (by omega))))
    have c32 : CB 32 (fun i => σ 234 (288 * 0 + i)) σ3 := CB.ag (CB.copy g2 (CB.ag s2 (fun _ _ _ => rfl) (fun o i p1 p2 => f1 o i (decide_eq_false (by omega))))) (fun _ _ _ => rfl) (fun o i p1 p2 => fo2 o i (by omega))
    have e37 : σ3 37 0 = 0 ∧ σ3 37 2 = σ 37 2 := by
      rw [← hs3]
      exact ⟨rfl, (f2 37 2 (by decide)).trans (f1 37 2 (by decide))⟩
    refine rpre σ3 _ ?_
    rw [if_neg (by rw [fo 235 0 (by omega) (by omega), q2]; decide), if_pos (by rw [fo 236 0 (by omega) (by omega), fo 214 47 (by omega) (by omega), q7, m2])]
    have hloop := z_for (F := 288) (P := fun k => ∀ g : Nat → Int32, (∀ i, i < k → g i = σ 234 (288 * 0 + i)) → Z (e + 1) 271 (fun v2 σ2 => 1 = v2 ∧ Inv b σ2) 40 [.ref 214, .int (nI 0), .int (nI k)] [] (zput (zup σ3 214 12 0) 215 g)) (fun k hk ih g hg => ?_) (fun g hg => ?_)
    · have := hloop ((zup σ3 214 12 0) 215) (fun i hi => absurd hi (Nat.not_lt_zero i))
      rw [zput_self] at this
      exact this
    · refine k_271_40 ?_
      rw [if_pos (show nI k < (288 : Int32) from nI_lt (b := 288) hk (by decide)), zm288, nI_add, if_pos (zin_nI (by omega) (by decide)), if_pos (zin_nI (by omega) (by decide)), zcl (by omega), zcl (by omega), show nI k + (1 : Int32) = nI (k + 1) from nI_add k 1]
      have e : zup (zput (zup σ3 214 12 0) 215 g) 215 k ((zput (zup σ3 214 12 0) 215 g) 234 (288 * 0 + k)) = zput (zup σ3 214 12 0) 215 (upd g k (σ 234 (288 * 0 + k))) := by
        rw [zup_eq, zput_twice]
        simp only [zput_app, ↓reduceIte, zup_eq, Nat.reduceEqDiff]
        rw [fo 234 _ (by omega) (by omega)]
      rw [e]
      refine ih _ (fun i hi => ?_)
      by_cases hik : i = k
      · subst hik; rw [upd_eq]
      · rw [upd_ne hik]; exact hg i (by omega)
    · refine k_271_40 ?_
      rw [if_neg (by decide)]
      generalize hs4 : zup (zput (zup σ3 214 12 0) 215 g) 214 30 0 = σ4
      have o4 : ∀ o i, o ≠ 214 → o ≠ 215 → σ4 o i = σ3 o i := fun o i p1 p2 => by
        rw [← hs4]
        simp only [zup_eq, zput_app]
        rw [if_neg p1, if_neg p2, if_neg p1]
      have e215 : σ4 215 = g := by rw [← hs4]; rfl
      have e30 : σ4 214 30 = 0 := by rw [← hs4]; rfl
      refine ⟨rfl, Inv.rowed h (Fr.tr f03 ?_) (fun F' hw' hr hk hp => ?_)⟩
      · rw [← hs4]
        exact Fr.tr (Fr.up (by decide)) (Fr.tr (Fr.put (fun i q => by rw [dAs_o (by omega)] at q; cases q)) (Fr.up (by decide)))
      have hFF : F' = G := by
        have := hw'.2.1.symm.trans hF
        have h2 := hw'.1
        exact (nI_eq (by omega) (by omega)).mp this
      subst hFF
      obtain ⟨s, x, -, p2, -, p4, -, -⟩ := hp
      have hrow : ∀ i, i < 288 → σ4 215 i = (fun i => σ 234 (288 * 0 + i)) i := fun i hi => by rw [e215]; exact hg i hi
      refine ⟨⟨CM.row h9 hrow (CM.ag c17 (fun o i p1 p2 => o4 o i (by omega) (by omega))), CB.ag c32 (fun i _ p2 => hrow i p2) (fun o i p1 p2 => o4 o i (by omega) (by omega)), t, s3, WR_cong h9 s4 hrow⟩, 0, x, by decide, p2, ?_, ?_, e30, fun j hj => absurd hj (Nat.not_lt_zero j)⟩
      · exact (o4 37 0 (by decide) (by decide)).trans e37.1
      · exact ((o4 37 2 (by decide) (by decide)).trans e37.2).trans p4
  · refine both_q h 0 none (fun Q hq => ?_) (fun σ3 f3 Q hq => ?_)
    · refine cpre Q ?_
      rw [if_neg (by rw [show σ 192 0 = 1 from q1]; decide)]
      refine k_128_44_192 ?_
      rw [if_neg (by rw [show σ 192 1 = nI G from q6, hF]; exact fun q => hG ((nI_eq (by omega) (by omega)).mp q))]
      exact hq σ Fr.rf
    · refine rpre σ3 Q ?_
      rw [if_neg (by rw [show σ3 235 0 = 1 from (f3 235 _ (by simp [tC])).trans q2]; decide), if_neg (by rw [(f3 236 _ (by simp [tC])).trans q7, (f3 214 47 (by decide)).trans m2]; exact fun q => hG (q5.mpr ((nI_eq (by omega) (by omega)).mp q)))]
      exact hq _ fr12
theorem again_1 {d e b : Nat} {σ : zS} (h : Inv b σ) : Both (d + 3) 128 [.ref 0, .int (nI 1)] (e + 2) 271 [.ref 214, .int (nI 1)] b σ := by
  have hi := h
  obtain ⟨F, l, W, hw, -, -, -, -, -, -, -, -, -, ⟨m, m1, m2, m3⟩, -⟩ := hi
  have h9 : F ≤ 9 := hw.1
  have hF := hw.2.1
  have cpre : ∀ Q : Int32 → zS → Prop, (if σ 203 0 = 0 then Q 0 σ else Z (d + 2) 128 Q 44 [.ref 0, .int (nI 1)] [.ref 203] σ) → ZC (d + 3) 128 [.ref 0, .int (nI 1)] σ Q := by
    intro Q hq
    refine k_128_0 ?_
    rw [show (Value.int (Int32.ofNat 2 - 1)) = .int (nI 1) from rfl, show (Value.int 0) = .int (nI 0) from rfl, s_isIn1 (by decide) (by decide) (by decide), if_neg (by decide), if_pos (zin_nI (by decide) (by decide)), zcl (by decide)]
    refine k_128_21_203 ?_
    rw [if_pos (zin_nI (by decide) (by decide)), zcl (by decide)]
    refine k_128_32_203 ?_
    rw [if_pos (zin_nI (by decide) (by decide)), zcl (by decide)]
    exact hq
  have rpre : ∀ (σ3 : zS) (Q : Int32 → zS → Prop), (if σ3 235 1 = 0 then Q 0 (zup σ3 214 12 0) else (if σ3 236 1 = σ3 214 47 then Z (e + 1) 271 Q 40 [.ref 214, .int (nI 1), .int 0] [] (zup σ3 214 12 0) else Q 0 (zup σ3 214 12 0))) → ZC (e + 2) 271 [.ref 214, .int (nI 1)] σ3 Q := by
    intro σ3 Q hq
    refine k_271_0 ?_
    rw [show (Value.int 0) = .int (nI 0) from rfl, show (Value.int 1) = .int (nI 1) from rfl, s_in1 (by decide) (by decide) (by decide), if_neg (by decide), if_pos (zin_nI (by decide) (by decide)), if_pos (zin_nI (by decide) (by decide)), zcl (by decide)]
    exact hq
  rcases m3 1 (by decide) with ⟨q1, q2⟩ | ⟨q1, q2, G, n, q3, q4, q5, q6, q7, ⟨s1, s2, t, s3, s4⟩⟩
  · refine both_q h 0 none (fun Q hq => ?_) (fun σ3 f3 Q hq => ?_)
    · refine cpre Q ?_
      rw [if_pos q1]
      exact hq σ Fr.rf
    · refine rpre σ3 Q ?_
      rw [if_pos ((f3 235 _ (by simp [tC])).trans q2)]
      exact hq _ fr12
  by_cases hG : G = F
  · have hn : n = m := q5.mp hG
    subst hG
    subst hn
    refine cpre _ ?_
    rw [if_neg (by rw [show σ 203 0 = 1 from q1]; decide)]
    refine k_128_44_203 ?_
    rw [if_pos (show σ 203 1 = σ 14 3 from q6.trans hF.symm), if_pos (zin_nI (by decide) (by decide)), zcl (by decide)]
    refine k_128_65_203 ?_
    refine k_24_0_i203_14_32 ?_
    refine c_mtake17_204 (fun σ1 f1 g1 => ?_)
    refine c_btake32_209 (fun σ2 f2 g2 => ?_)
    generalize hs3 : zup σ2 37 0 0 = σ3
    have fo : ∀ o i, ¬ (17 ≤ o ∧ o ≤ 21) → ¬ (32 ≤ o ∧ o ≤ 37) → σ3 o i = σ o i := fun o i p1 p2 => by
      rw [← hs3]
      simp only [zup_eq, zput_app]
      rw [if_neg (by omega)]
      exact (f2 o i (decide_eq_false (by omega))).trans (f1 o i (decide_eq_false (by omega)))
    have fo2 : ∀ o i, o ≠ 37 → σ3 o i = σ2 o i := fun o i p1 => by
      rw [← hs3]
      simp only [zup_eq, zput_app]
      rw [if_neg p1]
    have f03 : Fr dAs σ σ3 := by
      rw [← hs3]
      refine Fr.tr (Fr.mono f1 (fun o i q => ?_)) (Fr.tr (Fr.mono f2 (fun o i q => ?_)) (Fr.up (by decide)))
      · refine decide_eq_false (fun h => ?_)
        rw [dAs_o (by omega)] at q; cases q
      · refine decide_eq_false (fun h => ?_)
        rw [dAs_o (by omega)] at q; cases q
    have c17 : CM 17 G (fun i => σ 234 (288 * 1 + i)) σ3 := CM.ag (CM.copy h9 g1 s1) (fun o i p1 p2 => (fo2 o i (by omega)).trans (f2 o i (decide_eq_false (by omega))))
    have c32 : CB 32 (fun i => σ 234 (288 * 1 + i)) σ3 := CB.ag (CB.copy g2 (CB.ag s2 (fun _ _ _ => rfl) (fun o i p1 p2 => f1 o i (decide_eq_false (by omega))))) (fun _ _ _ => rfl) (fun o i p1 p2 => fo2 o i (by omega))
    have e37 : σ3 37 0 = 0 ∧ σ3 37 2 = σ 37 2 := by
      rw [← hs3]
      exact ⟨rfl, (f2 37 2 (by decide)).trans (f1 37 2 (by decide))⟩
    refine rpre σ3 _ ?_
    rw [if_neg (by rw [fo 235 1 (by omega) (by omega), q2]; decide), if_pos (by rw [fo 236 1 (by omega) (by omega), fo 214 47 (by omega) (by omega), q7, m2])]
    have hloop := z_for (F := 288) (P := fun k => ∀ g : Nat → Int32, (∀ i, i < k → g i = σ 234 (288 * 1 + i)) → Z (e + 1) 271 (fun v2 σ2 => 1 = v2 ∧ Inv b σ2) 40 [.ref 214, .int (nI 1), .int (nI k)] [] (zput (zup σ3 214 12 0) 215 g)) (fun k hk ih g hg => ?_) (fun g hg => ?_)
    · have := hloop ((zup σ3 214 12 0) 215) (fun i hi => absurd hi (Nat.not_lt_zero i))
      rw [zput_self] at this
      exact this
    · refine k_271_40 ?_
      rw [if_pos (show nI k < (288 : Int32) from nI_lt (b := 288) hk (by decide)), zm288, nI_add, if_pos (zin_nI (by omega) (by decide)), if_pos (zin_nI (by omega) (by decide)), zcl (by omega), zcl (by omega), show nI k + (1 : Int32) = nI (k + 1) from nI_add k 1]
      have e : zup (zput (zup σ3 214 12 0) 215 g) 215 k ((zput (zup σ3 214 12 0) 215 g) 234 (288 * 1 + k)) = zput (zup σ3 214 12 0) 215 (upd g k (σ 234 (288 * 1 + k))) := by
        rw [zup_eq, zput_twice]
        simp only [zput_app, ↓reduceIte, zup_eq, Nat.reduceEqDiff]
        rw [fo 234 _ (by omega) (by omega)]
      rw [e]
      refine ih _ (fun i hi => ?_)
      by_cases hik : i = k
      · subst hik; rw [upd_eq]
      · rw [upd_ne hik]; exact hg i (by omega)
    · refine k_271_40 ?_
      rw [if_neg (by decide)]
      generalize hs4 : zup (zput (zup σ3 214 12 0) 215 g) 214 30 0 = σ4
      have o4 : ∀ o i, o ≠ 214 → o ≠ 215 → σ4 o i = σ3 o i := fun o i p1 p2 => by
        rw [← hs4]
        simp only [zup_eq, zput_app]
        rw [if_neg p1, if_neg p2, if_neg p1]
      have e215 : σ4 215 = g := by rw [← hs4]; rfl
      have e30 : σ4 214 30 = 0 := by rw [← hs4]; rfl
      refine ⟨rfl, Inv.rowed h (Fr.tr f03 ?_) (fun F' hw' hr hk hp => ?_)⟩
      · rw [← hs4]
        exact Fr.tr (Fr.up (by decide)) (Fr.tr (Fr.put (fun i q => by rw [dAs_o (by omega)] at q; cases q)) (Fr.up (by decide)))
      have hFF : F' = G := by
        have := hw'.2.1.symm.trans hF
        have h2 := hw'.1
        exact (nI_eq (by omega) (by omega)).mp this
      subst hFF
      obtain ⟨s, x, -, p2, -, p4, -, -⟩ := hp
      have hrow : ∀ i, i < 288 → σ4 215 i = (fun i => σ 234 (288 * 1 + i)) i := fun i hi => by rw [e215]; exact hg i hi
      refine ⟨⟨CM.row h9 hrow (CM.ag c17 (fun o i p1 p2 => o4 o i (by omega) (by omega))), CB.ag c32 (fun i _ p2 => hrow i p2) (fun o i p1 p2 => o4 o i (by omega) (by omega)), t, s3, WR_cong h9 s4 hrow⟩, 0, x, by decide, p2, ?_, ?_, e30, fun j hj => absurd hj (Nat.not_lt_zero j)⟩
      · exact (o4 37 0 (by decide) (by decide)).trans e37.1
      · exact ((o4 37 2 (by decide) (by decide)).trans e37.2).trans p4
  · refine both_q h 0 none (fun Q hq => ?_) (fun σ3 f3 Q hq => ?_)
    · refine cpre Q ?_
      rw [if_neg (by rw [show σ 203 0 = 1 from q1]; decide)]
      refine k_128_44_203 ?_
      rw [if_neg (by rw [show σ 203 1 = nI G from q6, hF]; exact fun q => hG ((nI_eq (by omega) (by omega)).mp q))]
      exact hq σ Fr.rf
    · refine rpre σ3 Q ?_
      rw [if_neg (by rw [show σ3 235 1 = 1 from (f3 235 _ (by simp [tC])).trans q2]; decide), if_neg (by rw [(f3 236 _ (by simp [tC])).trans q7, (f3 214 47 (by decide)).trans m2]; exact fun q => hG (q5.mpr ((nI_eq (by omega) (by omega)).mp q)))]
      exact hq _ fr12
theorem call_again {d e b : Nat} {σ : zS} (x : Int32) (h : Inv b σ) : Both (d + 3) 128 [.ref 0, .int x] (e + 2) 271 [.ref 214, .int x] b σ := by
  rcases rng0 x 1 (n := 1) (by decide) rfl with hx | ⟨k, hk, rfl, -, -⟩
  · refine both_q h 0 none (fun Q hq => ?_) (fun σ3 f3 Q hq => ?_)
    · refine k_128_0 ?_
      rw [show (Value.int (Int32.ofNat 2 - 1)) = .int 1 from rfl, s_isIn0 hx, if_pos rfl]
      exact hq σ Fr.rf
    · refine k_271_0 ?_
      rw [s_in0 hx, if_pos rfl]
      exact hq _ fr12
  · have h2 : k = 0 ∨ k = 1 := by omega
    rcases h2 with rfl | rfl
    · exact again_0 h
    · exact again_1 h
