/-! one face set -/
def dWs (o i : Nat) : Bool := scr o i || (dWall o i || dRow o i)
theorem Inv.walled {b : Nat} {σ σ' : zS} (h : Inv b σ) (hf : Fr dWs σ σ') (hp : ∀ F, pWall F σ → pRow F b σ → pWall F σ' ∧ pRow F b σ') : Inv b σ' := by
  obtain ⟨F, l, W, h1, h2, h3, h4, h5, h6, h7, h8, h9, h10, h11, h12⟩ := h
  have fin : ∀ dep : Nat → Nat → Bool, (∀ o i, dep o i = true → dWs o i = false) → AG dep σ σ' := fun dep q => AG.of hf q
  obtain ⟨g1, g2⟩ := hp F h1 h2
  refine ⟨F, l, W, g1, g2, pRule.ag (fin dRule ?_) h3, pWind.ag (fin dWind ?_) h4, pText.ag (fin dText ?_) h5, pJd.ag (fin dJd ?_) h6, pTold.ag (fin dTold ?_) h7, pCrew.ag (fin dCrew ?_) h8, pSeen.ag (fin dSeen ?_) h9, pPast.ag (fin dPast ?_) h10, pKept.ag (fin dKept ?_) h11, (hf 214 7 (by decide)).trans h12⟩
  all_goals
    intro o i q
    simp only [dWall, dRow, dRule, dWind, dText, dJd, dCrew, dSeen, dPast, dKept, dWs, scr, dTold, decide_eq_true_eq, decide_eq_false_iff_not, Bool.or_eq_false_iff] at q ⊢
    omega
theorem dWs_o {o : Nat} (h : o = 15 ∨ o = 16 ∨ o = 18 ∨ o = 215 ∨ o = 216 ∨ o = 217) (i : Nat) : dWs o i = true := by
  rcases h with rfl | rfl | rfl | rfl | rfl | rfl <;> rfl
theorem s_exch15 {d : Nat} {σ : zS} {f : Nat} (hf : f < 9) (x : Int32) (Q : Int32 → zS → Prop) : ZC (d + 1) 144 [.ref 15, .int (nI f), .int x] σ Q = Q (σ 15 f) (zup σ 15 f x) := by
  refine s_of (fun Q h => k_144_0_i15 ?_) Q
  rw [if_neg (nI_pos (by omega)), if_pos (show nI f < Int32.ofNat 9 from nI_lt (b := 9) (by omega) (by decide)), if_pos (zin_nI (by omega) (by decide)), if_pos (zin_nI (by omega) (by decide)), zcl (by omega)]
  exact h
theorem s_exch16 {d : Nat} {σ : zS} {f : Nat} (hf : f < 9) (x : Int32) (Q : Int32 → zS → Prop) : ZC (d + 1) 144 [.ref 16, .int (nI f), .int x] σ Q = Q (σ 16 f) (zup σ 16 f x) := by
  refine s_of (fun Q h => k_144_0_i16 ?_) Q
  rw [if_neg (nI_pos (by omega)), if_pos (show nI f < Int32.ofNat 9 from nI_lt (b := 9) (by omega) (by decide)), if_pos (zin_nI (by omega) (by decide)), if_pos (zin_nI (by omega) (by decide)), zcl (by omega)]
  exact h
theorem s_exch18 {d : Nat} {σ : zS} {f : Nat} (hf : f < 9) (x : Int32) (Q : Int32 → zS → Prop) : ZC (d + 1) 144 [.ref 18, .int (nI f), .int x] σ Q = Q (σ 18 f) (zup σ 18 f x) := by
  refine s_of (fun Q h => k_144_0_i18 ?_) Q
  rw [if_neg (nI_pos (by omega)), if_pos (show nI f < Int32.ofNat 9 from nI_lt (b := 9) (by omega) (by decide)), if_pos (zin_nI (by omega) (by decide)), if_pos (zin_nI (by omega) (by decide)), zcl (by omega)]
  exact h
/-- the tiredness of a face, set -/
theorem CM.tired {F f n : Nat} {r : Nat → Int32} {σ : zS} (hf : f < F) (h9 : F ≤ 9) (h : CM 17 F r σ) : CM 17 F (upd r f (nI n)) (zup σ 18 f (nI n)) := by
  obtain ⟨h1, h2, h3, h4, h5⟩ := h
  refine ⟨fun g hg => ?_, fun g g1 g2 => ?_, fun g g1 g2 => h3 g g1 g2, ?_, ?_⟩
  · obtain ⟨a1, a2, a3, a4, a5⟩ := h1 g hg
    rw [upd_ne (show 9 + g ≠ f by omega), upd_ne (show 18 + g ≠ f by omega), upd_ne (show 27 + g ≠ f by omega), upd_ne (show 36 + g ≠ f by omega)]
    refine ⟨?_, a2, a3, a4, a5⟩
    show (zup σ 18 f (nI n)) 18 g = _
    by_cases hgf : g = f
    · subst hgf
      rw [zup_eq, zput_app, if_pos rfl, upd_eq, upd_eq]
    · rw [zup_eq, zput_app, if_pos rfl, upd_ne hgf, upd_ne hgf]; exact a1
  · exact h2 g g1 g2
  · rw [upd_ne (by omega)]; exact h4
  · rw [upd_ne (by omega)]; exact h5
theorem Ctx.hF15 {c : MC} {l : List Int32} {t : Nat} {σ : zS} (h : Ctx c l t σ) {f : Nat} (hf : f < c.1) : σ 15 f = σ 216 f ∧ σ 16 f = σ 217 f := by
  have e := h.2.2.1.2.2.1 f hf
  have e2 := h.2.2.2.2.2.2.2.1
  exact ⟨e.1.trans (congrFun e2.2.1 f).symm, e.2.trans (congrFun e2.2.2.1 f).symm⟩
theorem WR.tired {F t f n : Nat} {r : Nat → Int32} (h9 : F ≤ 9) (hf : f < F) (hn : n ≤ 9) (h : WR F t r) : WR F t (upd r f (nI n)) := by
  obtain ⟨h1, h2, h3, y, h4, h5⟩ := h
  refine ⟨?_, fun g hg => ?_, fun g hg => ?_, y, h4, ?_⟩
  · rw [upd_ne (by omega)]; exact h1
  · by_cases hgf : g = f
    · subst hgf; exact ⟨n, hn, upd_eq _ _ _⟩
    · rw [upd_ne hgf]; exact h2 g hg
  · rw [upd_ne (by omega)]; exact h3 g hg
  · rw [upd_ne (by omega)]; exact h5
theorem call_set {d e b : Nat} {σ : zS} (x y z : Int32) (h : Inv b σ) : Both (d + 2) 88 [.ref 0, .int x, .int y, .int z] (e + 3) 201 [.ref 214, .int x, .int y, .int z] b σ := by
  obtain ⟨c, l, t, ht, hc⟩ := h.ctx
  have h9 := hc.h9
  have hR3 : ∀ σ3, Fr tC σ σ3 → (zup σ3 214 12 0) 214 1 = nI c.1 := fun σ3 f3 => (fr12 (σ := σ3) 214 1 (by decide)).trans ((f3 214 1 (by decide)).trans hc.hR)
  rcases faceC x h9 with hx | ⟨f, hf, rfl⟩
  · refine both_q h (-1) none (fun Q hq => ?_) (fun σ3 f3 Q hq => ?_)
    · refine k_88_0 ?_
      rw [c_isFace0 hc.h14 hx, if_pos rfl]
      exact hq σ Fr.rf
    · refine k_201_0 ?_
      rw [r_isFace0 (hR3 σ3 f3) h9 hx, if_pos rfl]
      exact hq _ fr12
  rcases rng0 y 2 (n := 2) (by decide) rfl with hy | ⟨m, hm, rfl, y1, y2⟩
  · have ny : ∀ k : Int32, (0 ≤ k ∧ k ≤ 2) → ¬ y = k := by
      rintro k ⟨k1, k2⟩ rfl
      rcases hy with q | q
      · exact (i_le_iff.mp k1) q
      · exact (i_le_iff.mp k2) q
    refine both_q h (-1) none (fun Q hq => ?_) (fun σ3 f3 Q hq => ?_)
    · refine k_88_0 ?_
      rw [c_isFace1 hc.h14 h9 hf, if_neg (by decide), if_neg (ny 0 (by decide)), if_neg (ny 1 (by decide)), if_neg (ny 2 (by decide))]
      exact hq σ Fr.rf
    · refine k_201_0 ?_
      rw [r_isFace1 (hR3 σ3 f3) h9 hf, if_neg (by decide), s_in0 hy, if_pos rfl]
      exact hq _ fr12
  have hm3 : m = 0 ∨ m = 1 ∨ m = 2 := by omega
  rcases hm3 with rfl | rfl | rfl
  · rcases rng0 z 9 (n := 9) (by decide) rfl with hz | ⟨n, hn, rfl, z1, z2⟩
    · refine both_q h (-1) none (fun Q hq => ?_) (fun σ3 f3 Q hq => ?_)
      · refine k_88_0 ?_
        rw [c_isFace1 hc.h14 h9 hf, if_neg (by decide), if_pos (show nI 0 = (0 : Int32) from rfl), s_isIn0 hz, if_pos rfl, if_neg (by decide), if_neg (by decide)]
        exact hq σ Fr.rf
      · refine k_201_0 ?_
        rw [r_isFace1 (hR3 σ3 f3) h9 hf, if_neg (by decide), s_in, if_neg y1, if_neg y2, if_neg (by decide), if_neg (by decide), if_neg (by decide), s_in0 hz, if_pos rfl]
        exact hq _ fr12
    · refine k_88_0 ?_
      rw [c_isFace1 hc.h14 h9 hf, if_neg (by decide), if_pos (show nI 0 = (0 : Int32) from rfl), s_isIn, if_neg z1, if_neg z2, if_neg (by decide), s_exch18 (by omega)]
      refine k_201_0 ?_
      rw [r_isFace1 (show (zup (zup σ 18 f (nI n)) 214 12 0) 214 1 = nI c.1 from hc.hR) h9 hf, if_neg (by decide), s_in, if_neg y1, if_neg y2, if_neg (by decide), if_neg (by decide), if_neg (by decide), s_in, if_neg z1, if_neg z2, if_neg (by decide), if_pos (show nI 0 = (0 : Int32) from rfl), if_pos (zin_nI (by omega) (by decide)), if_pos (zin_nI (by omega) (by decide)), zcl (by omega)]
      refine ⟨(hc.hcm.1 f hf).1, Inv.walled h (Fr.tr (Fr.up (dWs_o (by omega) _)) (Fr.tr (Fr.up (by decide)) (Fr.up (dWs_o (by omega) _)))) (fun F hw hr => ?_)⟩
      have hFF : F = c.1 := by
        have := hw.2.1.symm.trans hc.h14
        have h2 := hw.1
        exact (nI_eq (by omega) (by omega)).mp this
      subst hFF
      obtain ⟨r1, r2, t', r3, r4⟩ := hr
      refine ⟨hw, ?_⟩
      have e215 : (zup (zup (zup σ 18 f (nI n)) 214 12 0) 215 f (nI n)) 215 = upd (σ 215) f (nI n) := rfl
      unfold pRow
      rw [e215]
      refine ⟨CM.ag (CM.tired hf h9 r1) (fun o i q1 q2 => ?_), CB.ag r2 (fun i q1 q2 => upd_ne (by omega)) (fun o i q1 q2 => ?_), t', r3, WR.tired h9 hf hn r4⟩
      · simp (disch := omega) only [zup_eq, zput_app]
        rw [if_neg (show ¬ o = 215 by omega), if_neg (show ¬ o = 214 by omega)]
      · simp (disch := omega) only [zup_eq, zput_app]
        rw [if_neg (show ¬ o = 215 by omega), if_neg (show ¬ o = 214 by omega), if_neg (show ¬ o = 18 by omega)]
  · rcases rngC z 1 9 (by decide) (by decide) with hz | ⟨n, hn0, hn, rfl⟩
    · have hz : z < (1 : Int32) ∨ (9 : Int32) < z := hz
      refine both_q h (-1) none (fun Q hq => ?_) (fun σ3 f3 Q hq => ?_)
      · refine k_88_0 ?_
        rw [c_isFace1 hc.h14 h9 hf, if_neg (by decide), if_neg (show ¬ nI 1 = (0 : Int32) by decide), if_pos (show nI 1 = (1 : Int32) from rfl), s_isIn0 hz, if_pos rfl, if_neg (show ¬ nI 1 = (2 : Int32) by decide)]
        exact hq σ Fr.rf
      · refine k_201_0 ?_
        rw [r_isFace1 (hR3 σ3 f3) h9 hf, if_neg (by decide), s_in, if_neg y1, if_neg y2, if_neg (by decide), if_pos (show nI 1 = (1 : Int32) from rfl), if_neg (show ¬ nI 1 = (2 : Int32) by decide), s_in0 hz, if_pos rfl]
        exact hq _ fr12
    · refine k_88_0 ?_
      rw [c_isFace1 hc.h14 h9 hf, if_neg (by decide), if_neg (show ¬ nI 1 = (0 : Int32) by decide), if_pos (show nI 1 = (1 : Int32) from rfl), show (Value.int 1) = .int (nI 1) from rfl, show (Value.int 9) = .int (nI 9) from rfl, s_isIn1 hn0 hn (by decide), if_neg (by decide), s_exch15 (by omega)]
      refine k_201_0 ?_
      rw [r_isFace1 (show (zup (zup σ 15 f (nI n)) 214 12 0) 214 1 = nI c.1 from hc.hR) h9 hf, if_neg (by decide), s_in, if_neg y1, if_neg y2, if_neg (by decide), if_pos (show nI 1 = (1 : Int32) from rfl), if_neg (show ¬ nI 1 = (2 : Int32) by decide), show (Value.int 1) = .int (nI 1) from rfl, show (Value.int 9) = .int (nI 9) from rfl, s_in1 hn0 hn (by decide), if_neg (by decide), if_neg (show ¬ nI 1 = (0 : Int32) by decide), if_pos (show nI 1 = (1 : Int32) from rfl), if_pos (zin_nI (by omega) (by decide)), if_neg (show ¬ nI 1 = (0 : Int32) by decide), if_pos (show nI 1 = (1 : Int32) from rfl), if_pos (zin_nI (by omega) (by decide)), zcl (by omega)]
      refine ⟨(hc.hF15 hf).1, Inv.walled h (Fr.tr (Fr.up (dWs_o (by omega) _)) (Fr.tr (Fr.up (by decide)) (Fr.up (dWs_o (by omega) _)))) (fun F hw hr => ⟨?_, pRow.ag (fun o i q => ?_) hr⟩)⟩
      · obtain ⟨w1, w2, w3, w4, w5⟩ := hw
        refine ⟨w1, w2, w3, fun g hg => ?_, fun g hg => ?_⟩
        rotate_left
        · show ∃ m, 1 ≤ m ∧ m ≤ 9 ∧ (zup σ 216 f (nI n)) 216 g = nI m
          rw [zup_eq, zput_app, if_pos rfl]
          by_cases hgf : g = f
          · subst hgf
            rw [upd_eq]; exact ⟨n, hn0, hn, rfl⟩
          · rw [upd_ne hgf]; exact w5 g hg
        obtain ⟨a1, a2⟩ := w4 g hg
        show (zup σ 15 f (nI n)) 15 g = (zup σ 216 f (nI n)) 216 g ∧ σ 16 g = σ 217 g
        rw [zup_eq, zup_eq, zput_app, zput_app, if_pos rfl, if_pos rfl]
        by_cases hgf : g = f
        · subst hgf
          rw [upd_eq, upd_eq]; exact ⟨rfl, a2⟩
        · rw [upd_ne hgf, upd_ne hgf]; exact ⟨a1, a2⟩
      · have q := of_decide_eq_true q
        simp only [zup_eq, zput_app]
        rw [if_neg (show ¬ o = 216 by omega), if_neg (show ¬ o = 214 by omega), if_neg (show ¬ o = 15 by omega)]
  · rcases rngC z 0 511 (by decide) (by decide) with hz | ⟨n, hn0, hn, rfl⟩
    · have hz : z < (0 : Int32) ∨ (511 : Int32) < z := hz
      refine both_q h (-1) none (fun Q hq => ?_) (fun σ3 f3 Q hq => ?_)
      · refine k_88_0 ?_
        rw [c_isFace1 hc.h14 h9 hf, if_neg (by decide), if_neg (show ¬ nI 2 = (0 : Int32) by decide), if_neg (show ¬ nI 2 = (1 : Int32) by decide), if_pos (show nI 2 = (2 : Int32) from rfl), s_isIn0 hz, if_pos rfl]
        exact hq σ Fr.rf
      · refine k_201_0 ?_
        rw [r_isFace1 (hR3 σ3 f3) h9 hf, if_neg (by decide), s_in, if_neg y1, if_neg y2, if_neg (by decide), if_neg (show ¬ nI 2 = (1 : Int32) by decide), if_pos (show nI 2 = (2 : Int32) from rfl), s_in0 hz, if_pos rfl]
        exact hq _ fr12
    · refine k_88_0 ?_
      rw [c_isFace1 hc.h14 h9 hf, if_neg (by decide), if_neg (show ¬ nI 2 = (0 : Int32) by decide), if_neg (show ¬ nI 2 = (1 : Int32) by decide), if_pos (show nI 2 = (2 : Int32) from rfl), show (Value.int 0) = .int (nI 0) from rfl, show (Value.int 511) = .int (nI 511) from rfl, s_isIn1 hn0 hn (by decide), if_neg (by decide), s_exch16 (by omega)]
      refine k_201_0 ?_
      rw [r_isFace1 (show (zup (zup σ 16 f (nI n)) 214 12 0) 214 1 = nI c.1 from hc.hR) h9 hf, if_neg (by decide), s_in, if_neg y1, if_neg y2, if_neg (by decide), if_neg (show ¬ nI 2 = (1 : Int32) by decide), if_pos (show nI 2 = (2 : Int32) from rfl), show (Value.int 0) = .int (nI 0) from rfl, show (Value.int 511) = .int (nI 511) from rfl, s_in1 hn0 hn (by decide), if_neg (by decide), if_neg (show ¬ nI 2 = (0 : Int32) by decide), if_neg (show ¬ nI 2 = (1 : Int32) by decide), if_pos (zin_nI (by omega) (by decide)), if_neg (show ¬ nI 2 = (0 : Int32) by decide), if_neg (show ¬ nI 2 = (1 : Int32) by decide), if_pos (zin_nI (by omega) (by decide)), zcl (by omega)]
      refine ⟨(hc.hF15 hf).2, Inv.walled h (Fr.tr (Fr.up (dWs_o (by omega) _)) (Fr.tr (Fr.up (by decide)) (Fr.up (dWs_o (by omega) _)))) (fun F hw hr => ⟨?_, pRow.ag (fun o i q => ?_) hr⟩)⟩
      · obtain ⟨w1, w2, w3, w4, w5⟩ := hw
        refine ⟨w1, w2, w3, fun g hg => ?_, w5⟩
        obtain ⟨a1, a2⟩ := w4 g hg
        show σ 15 g = σ 216 g ∧ (zup σ 16 f (nI n)) 16 g = (zup σ 217 f (nI n)) 217 g
        rw [zup_eq, zup_eq, zput_app, zput_app, if_pos rfl, if_pos rfl]
        by_cases hgf : g = f
        · subst hgf
          rw [upd_eq, upd_eq]; exact ⟨a1, rfl⟩
        · rw [upd_ne hgf, upd_ne hgf]; exact ⟨a1, a2⟩
      · have q := of_decide_eq_true q
        simp only [zup_eq, zput_app]
        rw [if_neg (show ¬ o = 217 by omega), if_neg (show ¬ o = 214 by omega), if_neg (show ¬ o = 16 by omega)]
