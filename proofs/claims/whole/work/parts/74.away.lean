/-! away and back; a yawn -/
theorem pPast.of {F b s x : Nat} {R : Nat → Nat → Int32} {σ : zS} (h9 : F ≤ 9) (hs : s ≤ 12) (hx : x < 13) (h : PQ F b s x R σ) (hr : PRr s R σ) : pPast F b σ :=
  ⟨s, x, hs, hx, h.1, h.2.1, hr.1, fun j hj => SN.row h9 (fun i hi => hr.2 j hj i hi) (h.2.2 j hj)⟩
theorem PQ.ag {F b s x : Nat} {R : Nat → Nat → Int32} {σ σ' : zS} (h : PQ F b s x R σ) (hf : ∀ o i, 37 ≤ o → o ≤ 181 → σ' o i = σ o i) : PQ F b s x R σ' := by
  obtain ⟨h1, h2, h3⟩ := h
  refine ⟨(hf 37 0 (by decide) (by decide)).trans h1, (hf 37 2 (by decide) (by decide)).trans h2, fun j hj => SN.ag (h3 j hj) (fun o i q1 q2 => ?_)⟩
  have hm : (x + 12 - j) % 13 < 13 := Nat.mod_lt _ (by decide)
  exact hf o i (by omega) (by omega)
theorem PRr.ag {s : Nat} {R : Nat → Nat → Int32} {σ σ' : zS} (h : PRr s R σ) (h1 : σ' 214 30 = σ 214 30) (h2 : ∀ i, σ' 223 i = σ 223 i) : PRr s R σ' :=
  ⟨h1.trans h.1, fun j hj i hi => (h2 _).trans (h.2 j hj i hi)⟩
theorem Inv.past {b : Nat} {σ : zS} (h : Inv b σ) : ∃ c l t, t ≤ b ∧ Ctx c l t σ ∧ CB 32 (σ 215) σ ∧ ∃ s x R, s ≤ 12 ∧ x < 13 ∧ PQ c.1 b s x R σ ∧ PRr s R σ := by
  obtain ⟨c, l, t, ht, hc⟩ := h.ctx
  obtain ⟨F, l', W, hw, ⟨-, hcb, -⟩, -, -, -, -, -, -, -, ⟨s, x, p1, p2, p3, p4, p5, p6⟩, -, -⟩ := h
  have hFF : F = c.1 := by
    have := hw.2.1.symm.trans hc.h14
    have h2 := hw.1
    have h9 := hc.h9
    exact (nI_eq (by omega) (by omega)).mp this
  subst hFF
  exact ⟨c, l, t, ht, hc, hcb, s, x, fun j i => σ 223 (288 * (s - 1 - j) + i), p1, p2, ⟨p3, p4, p6⟩, p5, fun j hj i hi => rfl⟩
theorem s12_le {s : Nat} (h : s ≤ 12) : s12 s ≤ 12 := by unfold s12; split <;> omega
theorem fr_dAs1 {σ σ' : zS} (h : Fr pRm σ σ') : Fr dAs σ σ' := Fr.mono h (fun o i q => by
  refine decide_eq_false (fun h => ?_)
  unfold dAs dPast at q
  rw [Bool.or_eq_false_iff, Bool.or_eq_false_iff, decide_eq_false_iff_not] at q
  omega)
theorem fr_dAs2 {σ σ' : zS} (h : Fr pRr σ σ') : Fr dAs σ σ' := Fr.mono h (fun o i q => by
  refine decide_eq_false (fun h => ?_)
  unfold dAs dPast at q
  rw [Bool.or_eq_false_iff, Bool.or_eq_false_iff, decide_eq_false_iff_not] at q
  omega)
theorem fr_dAs3 {σ σ' : zS} (h : Fr (pm 17) σ σ') : Fr dAs σ σ' := Fr.mono h (fun o i q => by
  refine decide_eq_false (fun h => ?_)
  rw [dAs_o (by omega)] at q; cases q)
/-- the end of a call that remembers and then moves the row -/
theorem Inv.moved {b t s x : Nat} {c : MC} {l : List Int32} {r : Nat → Int32} {R : Nat → Nat → Int32} {σ σ' : zS} (h : Inv b σ) (hc : Ctx c l t σ) (ht : t ≤ b) (hs : s ≤ 12) (hx : x < 13) (hf : Fr dAs σ σ') (hcm : CM 17 c.1 r σ') (hcb : CB 32 (σ 215) σ') (h47 : ∀ i, 47 ≤ i → i < 288 → r i = σ 215 i) (hr : σ' 215 = r) (hw : WR c.1 t r) (hq : PQ c.1 b s x R σ') (hp : PRr s R σ') : Inv b σ' := by
  refine Inv.rowed h hf (fun F hw' hr' hk hp' => ?_)
  have h9 := hc.h9
  have hFF : F = c.1 := by
    have := hw'.2.1.symm.trans hc.h14
    have h2 := hw'.1
    exact (nI_eq (by omega) (by omega)).mp this
  subst hFF
  refine ⟨?_, pPast.of h9 hs hx hq hp⟩
  unfold pRow
  rw [hr]
  exact ⟨hcm, CB.ag hcb h47 (fun _ _ _ _ => rfl), t, ht, hw⟩
theorem CM.away {F : Nat} {r : Nat → Int32} {σ : zS} (v : Int32) (h9 : F ≤ 9) (h : CM 17 F r σ) : CM 17 F (upd r 45 v) (zup σ 17 5 v) := by
  obtain ⟨h1, h2, h3, h4, h5⟩ := h
  refine ⟨fun g hg => ?_, fun g g1 g2 => h2 g g1 g2, fun g g1 g2 => h3 g g1 g2, ?_, ?_⟩
  · rw [upd_ne (show g ≠ 45 by omega), upd_ne (show 9 + g ≠ 45 by omega), upd_ne (show 18 + g ≠ 45 by omega), upd_ne (show 27 + g ≠ 45 by omega), upd_ne (show 36 + g ≠ 45 by omega)]
    exact h1 g hg
  · rw [upd_eq]; rfl
  · rw [upd_ne (by decide)]; exact h5
theorem gcl_WR {F t f : Nat} {r : Nat → Int32} (h9 : F ≤ 9) (hf : f < F) (h : WR F t r) : WR F t (gcl r f) := by
  obtain ⟨h1, h2, h3, y, h4, h5⟩ := h
  unfold gcl
  refine ⟨?_, fun g hg => ?_, fun g hg => ?_, y, h4, ?_⟩
  · rw [upd_ne (by omega), upd_ne (by omega), upd_ne (by omega)]; exact h1
  · rw [upd_ne (by omega), upd_ne (by omega), upd_ne (by omega)]; exact h2 g hg
  · by_cases hgf : g = f
    · rw [hgf, upd_eq]; exact Or.inl rfl
    · rw [upd_ne (by omega), upd_ne (by omega), upd_ne (by omega)]; exact h3 g hg
  · rw [upd_ne (by omega), upd_ne (by omega), upd_ne (by omega)]; exact h5
theorem awy_WR {F t : Nat} {v : Int32} {r : Nat → Int32} (h9 : F ≤ 9) (h : WR F t r) : WR F t (upd r 45 v) := by
  obtain ⟨h1, h2, h3, y, h4, h5⟩ := h
  refine ⟨?_, fun g hg => ?_, fun g hg => ?_, y, h4, ?_⟩
  · rw [upd_ne (by omega)]; exact h1
  · rw [upd_ne (by omega)]; exact h2 g hg
  · rw [upd_ne (by omega)]; exact h3 g hg
  · rw [upd_ne (by omega)]; exact h5
theorem call_away {d e b : Nat} {σ : zS} (x : Int32) (h : Inv b σ) : Both (d + 5) 92 [.ref 0, .int x] (e + 3) 214 [.ref 214, .int x] b σ := by
  obtain ⟨c, l, t, ht, hc, hcb, s, y, R, hs, hy, hpq, hpr⟩ := h.past
  have h9 := hc.h9
  rcases faceC x h9 with hx | ⟨f, hf, rfl⟩
  · refine both_q h (-1) none (fun Q hq => ?_) (fun σ3 f3 Q hq => ?_)
    · refine k_92_0 ?_
      rw [c_isFace0 hc.h14 hx, if_pos rfl]
      exact hq σ Fr.rf
    · refine k_214_0 ?_
      rw [r_isFace0 ((fr12 (σ := σ3) 214 1 (by decide)).trans ((f3 214 1 (by decide)).trans hc.hR)) h9 hx, if_pos rfl]
      exact hq _ fr12
  refine k_92_0 ?_
  rw [c_isFace1 hc.h14 h9 hf, if_neg (by decide)]
  refine c_remember hs hy h9 hc.hcm hcb ht hc.hWR hpq (fun σ1 f1 q1 => ?_)
  have o1 : ∀ o i, o < 37 ∨ 181 < o → σ1 o i = σ o i := fun o i q => f1 o i (decide_eq_false (by omega))
  have hcm1 : CM 17 c.1 (σ 215) σ1 := CM.ag hc.hcm (fun o i p1 p2 => o1 o i (by omega))
  refine k_31_0_i17 ?_
  rw [s_bit, show σ1 17 5 = σ 215 45 from hcm1.2.2.2.1]
  refine c_drop14 (CM.away (σ 215 45 ^^^ zshl 1 (nI f)) h9 hcm1) h9 hf (fun σ3 f3 g3 => ?_)
  have e175 : σ3 17 5 = σ 215 45 ^^^ zshl 1 (nI f) := by
    refine g3.2.2.2.1.trans ?_
    unfold gcl
    rw [upd_ne (by omega), upd_ne (by omega), upd_ne (by omega), upd_eq]
  have o3 : ∀ o i, o < 17 ∨ 21 < o → σ3 o i = σ1 o i := fun o i q => (f3 o i (decide_eq_false (by omega))).trans (by rw [zup_eq, zput_app, if_neg (by omega)])
  rw [s_bitCount, e175]
  refine k_214_0 ?_
  have hR3 : (zup σ3 214 12 0) 214 1 = nI c.1 := (o3 214 1 (by omega)).trans ((o1 214 1 (by omega)).trans hc.hR)
  rw [r_isFace1 hR3 h9 hf, if_neg (by decide)]
  have e215 : (zup σ3 214 12 0) 215 = σ 215 := funext fun i => (o3 215 i (by omega)).trans (o1 215 i (by omega))
  refine r_remember215 hs (PRr.ag hpr ((o3 214 30 (by omega)).trans (o1 214 30 (by omega))) (fun i => (o3 223 i (by omega)).trans (o1 223 i (by omega)))) (fun σ4 f4 q4 => ?_)
  rw [e215] at q4
  have e215' : σ4 215 = σ 215 := funext fun i => (f4 215 i (by simp [pRr])).trans (congrFun e215 i)
  refine k_213_0 ?_
  rw [r_clear215 (by omega), s_bitCount]
  have eg : upd (upd (upd ((zup σ4 215 45 (σ4 215 45 ^^^ zshl 1 (nI f))) 215) (18 + f) (-1)) (27 + f) (-1)) (36 + f) 0 = gcl (upd (σ 215) 45 (σ 215 45 ^^^ zshl 1 (nI f))) f := by
    rw [zup_eq, zput_app, if_pos rfl, e215']
    rfl
  rw [eg]
  generalize hs5 : zput (zup σ4 215 45 (σ4 215 45 ^^^ zshl 1 (nI f))) 215 (gcl (upd (σ 215) 45 (σ 215 45 ^^^ zshl 1 (nI f))) f) = σ5
  have e5 : σ5 215 = gcl (upd (σ 215) 45 (σ 215 45 ^^^ zshl 1 (nI f))) f := by rw [← hs5]; simp only [zput_app, ↓reduceIte]
  have o5 : ∀ o i, o ≠ 215 → σ5 o i = σ4 o i := fun o i q => by
    rw [← hs5]
    simp only [zup_eq, zput_app]
    rw [if_neg q, if_neg q]
  have o4 : ∀ o i, o ≠ 214 → o ≠ 223 → σ4 o i = σ3 o i := fun o i p1 p2 => (f4 o i (decide_eq_false (by omega))).trans (by rw [zup_eq, zput_app, if_neg p1])
  refine ⟨?_, Inv.moved h hc ht (s12_le hs) (Nat.mod_lt (y + 1) (by decide)) ?_ (CM.ag g3 (fun o i p1 p2 => (o5 o i (by omega)).trans (o4 o i (by omega) (by omega)))) (CB.ag hcb (fun _ _ _ => rfl) (fun o i p1 p2 => (o5 o i (by omega)).trans ((o4 o i (by omega) (by omega)).trans ((o3 o i (by omega)).trans (o1 o i (by omega)))))) (fun i p1 p2 => ?_) e5 (gcl_WR h9 hf (awy_WR h9 hc.hWR)) (PQ.ag q1 (fun o i p1 p2 => (o5 o i (by omega)).trans ((o4 o i (by omega) (by omega)).trans (o3 o i (by omega))))) (PRr.ag q4 (o5 214 30 (by omega)) (fun i => o5 223 i (by omega)))⟩
  · rw [e5]
    unfold gcl
    rw [upd_ne (show 45 ≠ 36 + f by omega), upd_ne (show 45 ≠ 27 + f by omega), upd_ne (show 45 ≠ 18 + f by omega), upd_eq]
  · refine Fr.tr (fr_dAs1 f1) (Fr.tr (Fr.up (dAs_o (by omega) _)) (Fr.tr (fr_dAs3 f3) (Fr.tr (Fr.up (by decide)) (Fr.tr (fr_dAs2 f4) ?_))))
    rw [← hs5]
    exact Fr.tr (Fr.up (dAs_o (by omega) _)) (Fr.put (fun i q => by rw [dAs_o (by omega)] at q; cases q))
  · unfold gcl
    rw [upd_ne (by omega), upd_ne (by omega), upd_ne (by omega), upd_ne (by omega)]
