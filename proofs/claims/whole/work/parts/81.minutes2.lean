/-! several minutes: the call -/
theorem Inv.movedN {b t s x n : Nat} {c : MC} {l : List Int32} {r : Nat → Int32} {R : Nat → Nat → Int32} {σ σ' : zS} (h : Inv b σ) (hc : Ctx c l t σ) (ht : t ≤ b) (hs : s ≤ 12) (hx : x < 13) (hf : Fr dMs σ σ') (hcm : CM 17 c.1 r σ') (hcb : CB 32 r σ') (hr : σ' 215 = r) (hw : WR c.1 (t + n) r) (hq : PQ c.1 b s x R σ') (hp : PRr s R σ') (htd : pTold σ') : Inv (b + n) σ' := by
  have h' := h.mono (Nat.le_add_right b n)
  have h9 := hc.h9
  obtain ⟨F, l', W, h1, h2, h3, h4, h5, h6, h7, h8, h9', h10, h11, h12⟩ := h'
  have hFF : F = c.1 := by
    have := h1.2.1.symm.trans hc.h14
    have h2 := h1.1
    exact (nI_eq (by omega) (by omega)).mp this
  subst hFF
  have fin : ∀ dep : Nat → Nat → Bool, (∀ o i, dep o i = true → dMs o i = false) → AG dep σ σ' := fun dep q => AG.of hf q
  obtain ⟨s', x', p1, p2, p3, p4, p5, p6⟩ := pPast.of h9 hs hx hq hp
  have hrow : pRow c.1 (b + n) σ' := by
    unfold pRow
    rw [hr]
    exact ⟨hcm, hcb, t + n, by omega, hw⟩
  refine ⟨c.1, l', W, pWall.ag (fin dWall ?_) h1, hrow, pRule.ag (fin dRule ?_) h3, pWind.ag (fin dWind ?_) h4, pText.ag (fin dText ?_) h5, pJd.ag (fin dJd ?_) h6, htd, pCrew.ag (fin dCrew ?_) h8, pSeen.ag (fin dSeen ?_) h9', ⟨s', x', p1, p2, p3, p4, p5, fun j hj => (p6 j hj).mono (Nat.le_add_right b n)⟩, pKept.ag (fin dKept ?_) h11, (hf 214 7 (by decide)).trans h12⟩
  all_goals
    intro o i q
    simp only [dWall, dRow, dRule, dWind, dText, dJd, dCrew, dSeen, dPast, dKept, dMs, scrT, scr, dTold, decide_eq_true_eq, decide_eq_false_iff_not, Bool.or_eq_false_iff] at q ⊢
    omega
theorem pTold.two {σ : zS} {a b : Int32} (h1 : TL 2 (tv2 a b) σ) (h2 : TLr 2 (upd (upd (fun _ => 0) 0 a) 1 b) σ) : pTold σ :=
  ⟨2, by decide, h1.1, h2.1, fun i hi => by
    rw [h1.2 i hi, h2.2 i hi]
    have : i = 0 ∨ i = 1 := by omega
    rcases this with rfl | rfl
    · rfl
    · rfl⟩
theorem call_minutes {d e b : Nat} {σ : zS} (x : Int32) (h : Inv b σ) (hb : b < 90000000) : ZC (d + 7) 95 [.ref 0, .int x] σ (fun v1 σ1 => ZC (e + 227) 218 [.ref 214, .int x] σ1 (fun v2 σ2 => v1 = v2 ∧ Inv (b + 300) σ2)) := by
  obtain ⟨c, l, t, ht, hc, hcb, s, z, R, hs, hz, hpq, hpr⟩ := h.past
  have h9 := hc.h9
  have hwr := hc.hWR
  rcases rngC x 0 300 (by decide) (by decide) with hx | ⟨n, -, hn, rfl⟩
  · have hx : x < (0 : Int32) ∨ (300 : Int32) < x := hx
    have hB : Both (d + 7) 95 [.ref 0, .int x] (e + 227) 218 [.ref 214, .int x] (b + 300) σ := by
      refine both_q (h.mono (Nat.le_add_right b 300)) (-1) none (fun Q hq => ?_) (fun σ3 f3 Q hq => ?_)
      · refine k_95_0 ?_
        rw [s_isIn0 hx, if_pos rfl]
        exact hq σ Fr.rf
      · refine k_218_0 ?_
        rw [s_in0 hx, if_pos rfl]
        exact hq _ fr12
    exact hB
  · have frA : ∀ {a b : zS}, Fr dAs a b → Fr dMs a b := fun h => fr_dMs h (fun _ _ => dMs_A)
    have frR : ∀ {a b : zS}, Fr frTR a b → Fr dMs a b := fun h => fr_dMs h (fun o i q => by
      rcases of_decide_eq_true q with ⟨rfl, rfl⟩ | rfl
      · exact dMs_T rfl
      · exact dMs_T rfl)
    have frC : ∀ {a b : zS}, Fr frTC a b → Fr dMs a b := fun h => fr_dMs h (fun o i q => by
      rcases of_decide_eq_true q with ⟨rfl, rfl⟩ | rfl
      · exact dMs_T rfl
      · exact dMs_T rfl)
    -- the class's loop from a state that keeps all but the past
    have cl : ∀ (σ1 : zS), (∀ o i, o < 37 ∨ 181 < o → σ1 o i = σ o i) → ∀ Q : Int32 → zS → Prop, (∀ σ3, Fr dMs σ1 σ3 → (∀ o i, 36 < o → o ≠ 190 → σ3 o i = σ1 o i) → CM 17 c.1 (mR c (σ 215) n) σ3 → CB 32 (mR c (σ 215) n) σ3 → TL 2 (tv2 (mFa c (σ 214 4) (σ 215) n) (mSt c (σ 214 4) (σ 215) n)) σ3 → Q (mA c (σ 215) n) σ3) → ∀ w6 w7, Z (d + 6) 95 Q 31 [.ref 0, .int (nI n), .int 0, .int 0, .int (-1), .int 0, w6, w7] [] σ1 := by
      intro σ1 o1 Q hq
      have hcm1 : CM 17 c.1 (σ 215) σ1 := CM.ag hc.hcm (fun o i p1 p2 => o1 o i (by omega))
      have hcb1 : CB 32 (σ 215) σ1 := CB.ag hcb (fun _ _ _ => rfl) (fun o i p1 p2 => o1 o i (by omega))
      have hCW : CW 14 c σ1 := by
        obtain ⟨k1, k2, k3, k4, k5, k6⟩ := hc.2.2.1
        exact ⟨(o1 14 3 (by omega)).trans k1, k2, fun f q => ⟨(o1 15 f (by omega)).trans (k3 f q).1, (o1 16 f (by omega)).trans (k3 f q).2⟩, (o1 3 5 (by omega)).trans k4, k5, fun i q => (o1 7 i (by omega)).trans (k6 i q)⟩
      have hRL : RL l σ1 := by
        obtain ⟨g1, g2, g3, g4⟩ := hc.2.1
        exact ⟨(o1 3 2 (by omega)).trans g1, fun i hi => (o1 5 i (by omega)).trans (g2 i hi), g3, g4⟩
      refine c_minutes (j := σ 214 4) hc.1 hCW hRL hcm1 hcb1 hwr ((o1 0 13 (by omega)).trans hc.hj) hn (by omega) (fun σ2 f2 g2 cb2 => ?_)
      refine c_tell2 (fun σ3 f3 t3 => ?_)
      have o3 : ∀ o i, o ≠ 0 → o ≠ 190 → σ3 o i = σ2 o i := fun o i p1 p2 => f3 o i (decide_eq_false (by omega))
      refine hq σ3 (Fr.tr (fr_dMs f2 (fun _ _ => dMs_go)) (frC f3)) (fun o i p1 p2 => (o3 o i (by omega) p2).trans (f2 o i ?_)) (CM.ag g2 (fun o i p1 p2 => o3 o i (by omega) (by omega))) (CB.ag cb2 (fun _ _ _ => rfl) (fun o i p1 p2 => o3 o i (by omega) (by omega))) t3
      unfold pGo pw pBk
      rw [Bool.or_eq_false_iff, decide_eq_false_iff_not, decide_eq_false_iff_not]
      omega
    -- the reference's loop
    have rl : ∀ (σ4 : zS), (∀ o i, 182 < o → o ≠ 190 → o ≠ 223 → (o = 214 → i ≠ 12 ∧ i ≠ 30) → σ4 o i = σ o i) → ∀ Q : Int32 → zS → Prop, (∀ σ7, Fr dMs σ4 σ7 → (∀ o i, o < 214 → σ7 o i = σ4 o i) → (∀ o i, o = 223 ∨ (o = 214 ∧ i = 30) → σ7 o i = σ4 o i) → σ7 215 = mR c (σ 215) n → TLr 2 (upd (upd (fun _ => 0) 0 (mFa c (σ 214 4) (σ 215) n)) 1 (mSt c (σ 214 4) (σ 215) n)) σ7 → Q (mA c (σ 215) n) σ7) → Z (e + 226) 218 Q 40 [.ref 214, .int (nI n), .int 0, .int 0, .int (-1), .int 0] [] σ4 := by
      intro σ4 ok4 Q hq
      have e215' : σ4 215 = σ 215 := funext fun i => ok4 215 i (by decide) (by decide) (by decide) (fun q => absurd q (by decide))
      have hPF : PF 215 c l t σ4 := by
        obtain ⟨c1, -, ⟨-, -, -, -, k5, -⟩, -, c5, c6, c7, ⟨m1, m2, m3, m4⟩, -, -, -⟩ := hc
        refine ⟨c1, RRef.ag c5 (ok4 214 20 (by decide) (by decide) (by decide) (fun _ => ⟨by decide, by decide⟩)) (fun i => ok4 222 i (by decide) (by decide) (by decide) (fun q => absurd q (by decide))), (ok4 214 6 (by decide) (by decide) (by decide) (fun _ => ⟨by decide, by decide⟩)).trans c6, k5, ?_, ⟨(ok4 214 1 (by decide) (by decide) (by decide) (fun _ => ⟨by decide, by decide⟩)).trans m1, ?_, ?_, m4⟩, ?_⟩
        · rw [← c7]; exact funext fun i => ok4 218 i (by decide) (by decide) (by decide) (fun q => absurd q (by decide))
        · rw [← m2]; exact funext fun i => ok4 216 i (by decide) (by decide) (by decide) (fun q => absurd q (by decide))
        · rw [← m3]; exact funext fun i => ok4 217 i (by decide) (by decide) (by decide) (fun q => absurd q (by decide))
        · rw [e215']; exact hwr
      refine r_minutes (d := e) (j := σ 214 4) hPF e215' ((ok4 214 7 (by decide) (by decide) (by decide) (fun _ => ⟨by decide, by decide⟩)).trans hc.2.2.2.2.2.2.2.2.2.1) (ok4 214 4 (by decide) (by decide) (by decide) (fun _ => ⟨by decide, by decide⟩)) h9 hn (by omega) (fun σ5 f5 e5 => ?_)
      refine r_tellN (TLr.zero _ (fun _ => 0)) (by decide) (fun σ6 f6 t6 => ?_)
      refine r_tellN t6 (by decide) (fun σ7 f7 t7 => ?_)
      have o6 : ∀ o i, o ≠ 220 → (o = 214 → i ≠ 11) → σ6 o i = σ5 o i := fun o i p1 p2 => by
        refine (f6 o i (decide_eq_false (by omega))).trans ?_
        by_cases h214 : o = 214
        · subst h214
          rw [zup_eq, zput_app, if_pos rfl, upd_ne (p2 rfl)]
        · rw [zup_eq, zput_app, if_neg h214]
      have o7 : ∀ o i, o ≠ 220 → (o = 214 → i ≠ 11) → σ7 o i = σ5 o i := fun o i p1 p2 => (f7 o i (decide_eq_false (by omega))).trans (o6 o i p1 p2)
      refine hq σ7 (Fr.tr (fr_dMs f5 (fun _ _ => dMs_pR)) (Fr.tr (Fr.up (by decide)) (Fr.tr (frR f6) (frR f7)))) (fun o i p => (o7 o i (by omega) (fun q => absurd q (by omega))).trans (f5 o i (by
        unfold pR
        rw [decide_eq_false (show ¬ o = 215 by omega), decide_eq_false (show ¬ o = 214 by omega)]
        rfl))) (fun o i p => (o7 o i (by omega) (by omega)).trans (f5 o i ?_)) ?_ t7
      · unfold pR
        rcases p with rfl | ⟨rfl, rfl⟩
        · rfl
        · rfl
      · rw [← e5]
        exact funext fun i => o7 215 i (by decide) (fun q => absurd q (by decide))
    refine k_95_0 ?_
    rw [show (Value.int 0) = .int (nI 0) from rfl, show (Value.int 300) = .int (nI 300) from rfl, s_isIn1 (Nat.zero_le n) hn (by decide), if_neg (by decide)]
    by_cases h0 : n = 0
    · subst h0
      rw [if_neg (by decide)]
      refine cl σ (fun _ _ _ => rfl) _ (fun σ3 f3 k3 g3 cb3 t3 => ?_) _ _
      refine k_218_0 ?_
      rw [show (Value.int 0) = .int (nI 0) from rfl, show (Value.int 300) = .int (nI 300) from rfl, s_in1 (Nat.zero_le 0) hn (by decide), if_neg (by decide), if_neg (by decide)]
      refine rl _ (fun o i p1 p2 p3 p4 => ?_) _ (fun σ7 f7 k7 r7 e7 t7 => ⟨rfl, ?_⟩)
      · by_cases h214 : o = 214
        · subst h214
          rw [zup_eq, zput_app, if_pos rfl, upd_ne (p4 rfl).1]
          exact k3 214 i (by decide) (by decide)
        · rw [zup_eq, zput_app, if_neg h214]
          exact k3 o i (by omega) p2
      · have lo : ∀ o i, 36 < o → o < 190 → σ7 o i = σ o i := fun o i p1 p2 => (k7 o i (by omega)).trans (by
          rw [zup_eq, zput_app, if_neg (by omega)]
          exact k3 o i p1 (by omega))
        have lo3 : ∀ o i, o < 214 → σ7 o i = σ3 o i := fun o i p1 => (k7 o i p1).trans (by
          rw [zup_eq, zput_app, if_neg (by omega)])
        have hi7 : ∀ o i, o = 223 ∨ (o = 214 ∧ i = 30) → σ7 o i = σ o i := fun o i p => by
          refine (r7 o i p).trans ?_
          rcases p with rfl | ⟨rfl, rfl⟩
          · exact k3 223 i (by decide) (by decide)
          · exact k3 214 30 (by decide) (by decide)
        refine (Inv.movedN (n := 0) h hc ht hs hz (Fr.tr f3 (Fr.tr (Fr.up (by decide)) f7)) (CM.ag g3 (fun o i p1 p2 => lo3 o i (by omega))) (CB.ag cb3 (fun _ _ _ => rfl) (fun o i p1 p2 => lo3 o i (by omega))) e7 hwr (PQ.ag hpq (fun o i p1 p2 => lo o i (by omega) (by omega))) (PRr.ag hpr (hi7 214 30 (Or.inr ⟨rfl, rfl⟩)) (fun i => hi7 223 i (Or.inl rfl))) (pTold.two ?_ t7)).mono (Nat.le_add_right b 300)
        exact ⟨(k7 0 12 (by decide)).trans t3.1, fun i hi => (k7 190 i (by decide)).trans (t3.2 i hi)⟩
    · rw [if_pos (show (0 : Int32) < nI n from nI_lt (a := 0) (by omega) (by omega))]
      refine c_remember hs hz h9 hc.hcm hcb ht hc.hWR hpq (fun σ1 f1 q1 => ?_)
      have o1 : ∀ o i, o < 37 ∨ 181 < o → σ1 o i = σ o i := fun o i q => f1 o i (decide_eq_false (by omega))
      refine cl σ1 o1 _ (fun σ3 f3 k3 g3 cb3 t3 => ?_) _ _
      have ok : ∀ o i, 182 < o → o ≠ 190 → σ3 o i = σ o i := fun o i p1 p2 => (k3 o i (by omega) p2).trans (o1 o i (by omega))
      refine k_218_0 ?_
      rw [show (Value.int 0) = .int (nI 0) from rfl, show (Value.int 300) = .int (nI 300) from rfl, s_in1 (Nat.zero_le n) hn (by decide), if_neg (by decide), if_pos (show (0 : Int32) < nI n from nI_lt (a := 0) (by omega) (by omega))]
      have e215 : (zup σ3 214 12 0) 215 = σ 215 := funext fun i => ok 215 i (by decide) (by decide)
      refine r_remember215 hs (PRr.ag hpr (ok 214 30 (by decide) (by decide)) (fun i => ok 223 i (by decide) (by decide))) (fun σ4 f4 q4 => ?_)
      rw [e215] at q4
      have o4 : ∀ o i, o ≠ 223 → (o = 214 → i ≠ 12 ∧ i ≠ 30) → σ4 o i = σ3 o i := fun o i p1 p2 => by
        refine (f4 o i (decide_eq_false (by omega))).trans ?_
        by_cases h214 : o = 214
        · subst h214
          rw [zup_eq, zput_app, if_pos rfl, upd_ne (p2 rfl).1]
        · rw [zup_eq, zput_app, if_neg h214]
      refine rl _ (fun o i p1 p2 p3 p4 => (o4 o i p3 p4).trans (ok o i p1 p2)) _ (fun σ7 f7 k7 r7 e7 t7 => ⟨rfl, ?_⟩)
      have lo : ∀ o i, o < 214 → σ7 o i = σ3 o i := fun o i p1 => (k7 o i p1).trans (o4 o i (by omega) (fun q => absurd q (by omega)))
      refine (Inv.movedN (n := n) h hc ht (s12_le hs) (Nat.mod_lt (z + 1) (by decide)) (Fr.tr (frA (fr_dAs1 f1)) (Fr.tr f3 (Fr.tr (Fr.up (by decide)) (Fr.tr (frA (fr_dAs2 f4)) f7)))) (CM.ag g3 (fun o i p1 p2 => lo o i (by omega))) (CB.ag cb3 (fun _ _ _ => rfl) (fun o i p1 p2 => lo o i (by omega))) e7 (mR_WR h9 hwr n) (PQ.ag q1 (fun o i p1 p2 => (lo o i (by omega)).trans (k3 o i (by omega) (by omega)))) (PRr.ag q4 (r7 214 30 (Or.inr ⟨rfl, rfl⟩)) (fun i => r7 223 i (Or.inl rfl))) (pTold.two ?_ t7)).mono (Nat.add_le_add_left hn b)
      exact ⟨(lo 0 12 (by decide)).trans t3.1, fun i hi => (lo 190 i (by decide)).trans (t3.2 i hi)⟩
