/-! keep -/
def dKs (o i : Nat) : Bool := scr o i || dKept o i
theorem Inv.kepted {b : Nat} {σ σ' : zS} (h : Inv b σ) (hf : Fr dKs σ σ') (hp : ∀ F, pWall F σ → pRow F b σ → pKept F b σ → pKept F b σ') : Inv b σ' := by
  obtain ⟨F, l, W, h1, h2, h3, h4, h5, h6, h7, h8, h9, h10, h11, h12⟩ := h
  have fin : ∀ dep : Nat → Nat → Bool, (∀ o i, dep o i = true → dKs o i = false) → AG dep σ σ' := fun dep q => AG.of hf q
  refine ⟨F, l, W, pWall.ag (fin dWall ?_) h1, pRow.ag (fin dRow ?_) h2, pRule.ag (fin dRule ?_) h3, pWind.ag (fin dWind ?_) h4, pText.ag (fin dText ?_) h5, pJd.ag (fin dJd ?_) h6, pTold.ag (fin dTold ?_) h7, pCrew.ag (fin dCrew ?_) h8, pSeen.ag (fin dSeen ?_) h9, pPast.ag (fin dPast ?_) h10, hp F h1 h2 h11, (hf 214 7 (by decide)).trans h12⟩
  all_goals
    intro o i q
    simp only [dWall, dRow, dRule, dWind, dText, dJd, dCrew, dSeen, dPast, dKept, dKs, scr, dTold, decide_eq_true_eq, decide_eq_false_iff_not, Bool.or_eq_false_iff] at q ⊢
    omega
theorem CM.row {mo F : Nat} {r r' : Nat → Int32} {σ : zS} (h9 : F ≤ 9) (he : ∀ i, i < 288 → r' i = r i) (h : CM mo F r σ) : CM mo F r' σ := by
  obtain ⟨h1, h2, h3, h4, h5⟩ := h
  refine ⟨fun f hf => ?_, h2, h3, h4.trans (he 45 (by omega)).symm, h5.trans (he 46 (by omega)).symm⟩
  rw [he f (by omega), he (9 + f) (by omega), he (18 + f) (by omega), he (27 + f) (by omega), he (36 + f) (by omega)]
  exact h1 f hf
theorem SN.row {k G b : Nat} {r r' : Nat → Int32} {σ : zS} (h9 : G ≤ 9) (he : ∀ i, i < 288 → r' i = r i) (h : SN k G b r σ) : SN k G b r' σ := by
  obtain ⟨h1, h2, t, h3, h4⟩ := h
  exact ⟨CM.row h9 he h1, CB.ag h2 (fun i _ q2 => he i q2) (fun _ _ _ _ => rfl), t, h3, WR_cong h9 h4 he⟩
theorem dKs_o {o : Nat} (h : (192 ≤ o ∧ o ≤ 213) ∨ (234 ≤ o ∧ o ≤ 236)) (i : Nat) : dKs o i = true := by
  unfold dKs dKept
  rw [Bool.or_eq_true]
  exact Or.inr (decide_eq_true (by omega))
theorem ly_in (f g : Nat → Int32) (x k i : Nat) (h : i < k) : ly f g x k (x + i) = f i := by
  unfold ly
  rw [if_pos (by omega), Nat.add_sub_cancel_left]
theorem ly_out (f g : Nat → Int32) (x k i : Nat) (h : i < x ∨ x + k ≤ i) : ly f g x k i = g i := if_neg (by omega)
/-- the moment kept at a place: all that is said of it -/
theorem pKept.put {F b J : Nat} {σ σ' : zS} (hJ : J < 2) (h9 : F ≤ 9) (hk : pKept F b σ) (hm : σ' 214 47 = σ 214 47) (hs : SN (192 + 11 * J) F b (σ 215) σ') (h0 : σ' (192 + 11 * J) 0 = 1) (h1 : σ' (192 + 11 * J) 1 = nI F) (hr : ∀ i, i < 288 → σ' 234 (288 * J + i) = σ 215 i) (h35 : σ' 235 = upd (σ 235) J 1) (h36 : σ' 236 = upd (σ 236) J (σ 214 47)) (ho : ∀ o i, 192 + 11 * (1 - J) ≤ o → o ≤ 192 + 11 * (1 - J) + 10 → σ' o i = σ o i) (hr2 : ∀ i, i < 288 → σ' 234 (288 * (1 - J) + i) = σ 234 (288 * (1 - J) + i)) : pKept F b σ' := by
  obtain ⟨m, m1, m2, m3⟩ := hk
  refine ⟨m, m1, hm.trans m2, fun j hj => ?_⟩
  by_cases hjJ : j = J
  · subst hjJ
    refine Or.inr ⟨h0, by rw [h35, upd_eq], F, m, Nat.le_refl _, Nat.le_refl _, ⟨fun _ => rfl, fun _ => rfl⟩, h1, by rw [h36, upd_eq]; exact m2, SN.row h9 hr hs⟩
  · have e : j = 1 - J := by omega
    rw [h35, h36, upd_ne hjJ, upd_ne hjJ]
    subst e
    rw [ho _ 0 (by omega) (by omega), ho _ 1 (by omega) (by omega)]
    rcases m3 (1 - J) hj with q | ⟨q1, q2, G, n, q3, q4, q5, q6, q7, q8⟩
    · exact Or.inl q
    · exact Or.inr ⟨q1, q2, G, n, q3, q4, q5, q6, q7, SN.row (by omega) hr2 (SN.ag q8 (fun o i q1 q2 => ho o i (by omega) (by omega)))⟩
theorem keep_0 {d e b : Nat} {σ : zS} (h : Inv b σ) : Both (d + 3) 127 [.ref 0, .int (nI 0)] (e + 2) 270 [.ref 214, .int (nI 0)] b σ := by
  obtain ⟨c, l, t, ht, hc⟩ := h.ctx
  have h9 := hc.h9
  refine k_127_0 ?_
  rw [show (Value.int (Int32.ofNat 2 - 1)) = .int (nI 1) from rfl, show (Value.int 0) = .int (nI 0) from rfl, s_isIn1 (by decide) (by decide) (by decide), if_neg (by decide), if_pos (zin_nI (by decide) (by decide)), zcl (by decide)]
  refine k_127_21_192 ?_
  rw [if_pos (zin_nI (by decide) (by decide)), zcl (by decide)]
  refine k_127_32_192 ?_
  refine k_23_0_i192_14_32 ?_
  refine c_mtake193_17 (fun σ1 f1 m1 => ?_)
  refine c_btake198_32 (fun σ2 f2 m2 => ?_)
  have hsn : ∀ F, pWall F σ → pRow F b σ → SN 192 F b (σ 215) σ2 := by
    rintro F hw ⟨r1, r2, r3⟩
    refine ⟨CM.ag (CM.copy hw.1 m1 r1) (fun o i q1 q2 => f2 o i (decide_eq_false (by omega))), CB.copy m2 (CB.ag r2 (fun _ _ _ => rfl) (fun o i q1 q2 => f1 o i (decide_eq_false (by omega)))), r3⟩
  have q14 : σ2 14 3 = nI c.1 := (f2 14 3 (by decide)).trans ((f1 14 3 (by decide)).trans hc.h14)
  rw [q14]
  have f12 : Fr dKs σ σ2 := Fr.tr (Fr.mono f1 (fun o i q => by
    refine decide_eq_false (fun h => ?_)
    rw [dKs_o (by omega)] at q; cases q)) (Fr.mono f2 (fun o i q => by
    refine decide_eq_false (fun h => ?_)
    rw [dKs_o (by omega)] at q; cases q))
  have fo : ∀ o i, o < 192 ∨ 213 < o ∨ (203 ≤ o ∧ o ≤ 213) → σ2 o i = σ o i := fun o i q => (f2 o i (decide_eq_false (by omega))).trans (f1 o i (decide_eq_false (by omega)))
  generalize hs3 : zup (zup σ2 192 1 (nI c.1)) 192 0 1 = σ3
  have f3 : Fr dKs σ2 σ3 := by rw [← hs3]; exact Fr.tr (Fr.up (dKs_o (by omega) _)) (Fr.up (dKs_o (by omega) _))
  have o3 : ∀ o i, o ≠ 192 → σ3 o i = σ2 o i := fun o i q => by rw [← hs3]; simp only [zup_eq, zput_app]; rw [if_neg q, if_neg q]
  have a0 : σ3 192 0 = 1 := by rw [← hs3]; rfl
  have a1 : σ3 192 1 = nI c.1 := by rw [← hs3]; rfl
  refine k_270_0 ?_
  rw [show (Value.int 0) = .int (nI 0) from rfl, show (Value.int 1) = .int (nI 1) from rfl, s_in1 (by decide) (by decide) (by decide), if_neg (by decide), if_pos (zin_nI (by decide) (by decide)), if_pos (zin_nI (by decide) (by decide)), zcl (by decide), zm288, r_lay215_234 (by decide)]
  have o4 : ∀ o i, o ≠ 214 → o ≠ 234 → o ≠ 235 → o ≠ 236 → (zput (zup (zup (zup σ3 214 12 0) 235 0 (1 &&& 1)) 236 0 ((zup σ3 214 12 0) 214 47)) 234 (ly ((zup (zup (zup σ3 214 12 0) 235 0 (1 &&& 1)) 236 0 ((zup σ3 214 12 0) 214 47)) 215) ((zup (zup (zup σ3 214 12 0) 235 0 (1 &&& 1)) 236 0 ((zup σ3 214 12 0) 214 47)) 234) (288 * 0) 288)) o i = σ3 o i := fun o i q1 q2 q3 q4 => by
    simp only [zup_eq, zput_app]; rw [if_neg q2, if_neg q4, if_neg q3, if_neg q1]
  refine ⟨rfl, Inv.kepted h (Fr.tr f12 (Fr.tr f3 (Fr.tr (Fr.up (by decide)) (Fr.tr (Fr.up (dKs_o (by omega) _)) (Fr.tr (Fr.up (dKs_o (by omega) _)) (Fr.put (fun i q => by rw [dKs_o (by omega)] at q; cases q))))))) (fun F hw hr hk => ?_)⟩
  have hFF : F = c.1 := by
    have := hw.2.1.symm.trans hc.h14
    have h2 := hw.1
    exact (nI_eq (by omega) (by omega)).mp this
  subst hFF
  have e215 : σ3 215 = σ 215 := funext fun i => (o3 215 i (by decide)).trans (fo 215 i (by omega))
  have e234 : σ3 234 = σ 234 := funext fun i => (o3 234 i (by decide)).trans (fo 234 i (by omega))
  have e235 : σ3 235 = σ 235 := funext fun i => (o3 235 i (by decide)).trans (fo 235 i (by omega))
  have e236 : σ3 236 = σ 236 := funext fun i => (o3 236 i (by decide)).trans (fo 236 i (by omega))
  have e47 : σ3 214 47 = σ 214 47 := (o3 214 47 (by decide)).trans (fo 214 47 (by omega))
  refine pKept.put (J := 0) (by decide) h9 hk e47 (SN.ag (hsn c.1 hw hr) (fun o i q1 q2 => (o4 o i (by omega) (by omega) (by omega) (by omega)).trans (o3 o i (by omega)))) ((o4 _ _ (by decide) (by decide) (by decide) (by decide)).trans a0) ((o4 _ _ (by decide) (by decide) (by decide) (by decide)).trans a1) (fun i hi => ?_) ?_ ?_ (fun o i q1 q2 => (o4 o i (by omega) (by omega) (by omega) (by omega)).trans ((o3 o i (by omega)).trans (fo o i (by omega)))) (fun i hi => ?_)
  · rw [← e215]; exact ly_in _ _ _ _ i hi
  · rw [← e235]; rfl
  · rw [← e236, ← e47]; rfl
  · rw [← e234]; exact ly_out _ _ _ _ _ (by omega)
theorem keep_1 {d e b : Nat} {σ : zS} (h : Inv b σ) : Both (d + 3) 127 [.ref 0, .int (nI 1)] (e + 2) 270 [.ref 214, .int (nI 1)] b σ := by
  obtain ⟨c, l, t, ht, hc⟩ := h.ctx
  have h9 := hc.h9
  refine k_127_0 ?_
  rw [show (Value.int (Int32.ofNat 2 - 1)) = .int (nI 1) from rfl, show (Value.int 0) = .int (nI 0) from rfl, s_isIn1 (by decide) (by decide) (by decide), if_neg (by decide), if_pos (zin_nI (by decide) (by decide)), zcl (by decide)]
  refine k_127_21_203 ?_
  rw [if_pos (zin_nI (by decide) (by decide)), zcl (by decide)]
  refine k_127_32_203 ?_
  refine k_23_0_i203_14_32 ?_
  refine c_mtake204_17 (fun σ1 f1 m1 => ?_)
  refine c_btake209_32 (fun σ2 f2 m2 => ?_)
  have hsn : ∀ F, pWall F σ → pRow F b σ → SN 203 F b (σ 215) σ2 := by
    rintro F hw ⟨r1, r2, r3⟩
    refine ⟨CM.ag (CM.copy hw.1 m1 r1) (fun o i q1 q2 => f2 o i (decide_eq_false (by omega))), CB.copy m2 (CB.ag r2 (fun _ _ _ => rfl) (fun o i q1 q2 => f1 o i (decide_eq_false (by omega)))), r3⟩
  have q14 : σ2 14 3 = nI c.1 := (f2 14 3 (by decide)).trans ((f1 14 3 (by decide)).trans hc.h14)
  rw [q14]
  have f12 : Fr dKs σ σ2 := Fr.tr (Fr.mono f1 (fun o i q => by
    refine decide_eq_false (fun h => ?_)
    rw [dKs_o (by omega)] at q; cases q)) (Fr.mono f2 (fun o i q => by
    refine decide_eq_false (fun h => ?_)
    rw [dKs_o (by omega)] at q; cases q))
  have fo : ∀ o i, o < 192 ∨ 213 < o ∨ (192 ≤ o ∧ o ≤ 202) → σ2 o i = σ o i := fun o i q => (f2 o i (decide_eq_false (by omega))).trans (f1 o i (decide_eq_false (by omega)))
  generalize hs3 : zup (zup σ2 203 1 (nI c.1)) 203 0 1 = σ3
  have f3 : Fr dKs σ2 σ3 := by rw [← hs3]; exact Fr.tr (Fr.up (dKs_o (by omega) _)) (Fr.up (dKs_o (by omega) _))
  have o3 : ∀ o i, o ≠ 203 → σ3 o i = σ2 o i := fun o i q => by rw [← hs3]; simp only [zup_eq, zput_app]; rw [if_neg q, if_neg q]
  have a0 : σ3 203 0 = 1 := by rw [← hs3]; rfl
  have a1 : σ3 203 1 = nI c.1 := by rw [← hs3]; rfl
  refine k_270_0 ?_
  rw [show (Value.int 0) = .int (nI 0) from rfl, show (Value.int 1) = .int (nI 1) from rfl, s_in1 (by decide) (by decide) (by decide), if_neg (by decide), if_pos (zin_nI (by decide) (by decide)), if_pos (zin_nI (by decide) (by decide)), zcl (by decide), zm288, r_lay215_234 (by decide)]
  have o4 : ∀ o i, o ≠ 214 → o ≠ 234 → o ≠ 235 → o ≠ 236 → (zput (zup (zup (zup σ3 214 12 0) 235 1 (1 &&& 1)) 236 1 ((zup σ3 214 12 0) 214 47)) 234 (ly ((zup (zup (zup σ3 214 12 0) 235 1 (1 &&& 1)) 236 1 ((zup σ3 214 12 0) 214 47)) 215) ((zup (zup (zup σ3 214 12 0) 235 1 (1 &&& 1)) 236 1 ((zup σ3 214 12 0) 214 47)) 234) (288 * 1) 288)) o i = σ3 o i := fun o i q1 q2 q3 q4 => by
    simp only [zup_eq, zput_app]; rw [if_neg q2, if_neg q4, if_neg q3, if_neg q1]
  refine ⟨rfl, Inv.kepted h (Fr.tr f12 (Fr.tr f3 (Fr.tr (Fr.up (by decide)) (Fr.tr (Fr.up (dKs_o (by omega) _)) (Fr.tr (Fr.up (dKs_o (by omega) _)) (Fr.put (fun i q => by rw [dKs_o (by omega)] at q; cases q))))))) (fun F hw hr hk => ?_)⟩
  have hFF : F = c.1 := by
    have := hw.2.1.symm.trans hc.h14
    have h2 := hw.1
    exact (nI_eq (by omega) (by omega)).mp this
  subst hFF
  have e215 : σ3 215 = σ 215 := funext fun i => (o3 215 i (by decide)).trans (fo 215 i (by omega))
  have e234 : σ3 234 = σ 234 := funext fun i => (o3 234 i (by decide)).trans (fo 234 i (by omega))
  have e235 : σ3 235 = σ 235 := funext fun i => (o3 235 i (by decide)).trans (fo 235 i (by omega))
  have e236 : σ3 236 = σ 236 := funext fun i => (o3 236 i (by decide)).trans (fo 236 i (by omega))
  have e47 : σ3 214 47 = σ 214 47 := (o3 214 47 (by decide)).trans (fo 214 47 (by omega))
  refine pKept.put (J := 1) (by decide) h9 hk e47 (SN.ag (hsn c.1 hw hr) (fun o i q1 q2 => (o4 o i (by omega) (by omega) (by omega) (by omega)).trans (o3 o i (by omega)))) ((o4 _ _ (by decide) (by decide) (by decide) (by decide)).trans a0) ((o4 _ _ (by decide) (by decide) (by decide) (by decide)).trans a1) (fun i hi => ?_) ?_ ?_ (fun o i q1 q2 => (o4 o i (by omega) (by omega) (by omega) (by omega)).trans ((o3 o i (by omega)).trans (fo o i (by omega)))) (fun i hi => ?_)
  · rw [← e215]; exact ly_in _ _ _ _ i hi
  · rw [← e235]; rfl
  · rw [← e236, ← e47]; rfl
  · rw [← e234]; exact ly_out _ _ _ _ _ (by omega)
