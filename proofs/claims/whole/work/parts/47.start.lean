/-! THE START -/
theorem REq.of {r r' : Nat → Int32} (h : ∀ i, i < 288 → r i = r' i) : REq r r' := fun i hi => h i (by omega)
/-- the start of a row -/
def stR (c : MC) (j : Int32) (r : Nat → Int32) : Int32 × Int32 × Int32 := sW c (so (nI c.1) c.2.2.1 j c.1) 300 0 r 0
theorem call_start {d e b : Nat} {σ : zS} (h : Inv b σ) (hb : b < 90000000) : Both (d + 7) 100 [.ref 0] (e + 228) 229 [.ref 214] b σ := by
  obtain ⟨c, l, t, ht, hc⟩ := h.ctx
  have h9 : c.1 ≤ 9 := hc.2.2.1.2.1
  have hj := hc.2.2.2.2.2.2.2.2.2.2
  generalize hR : stR c (σ 214 4) (σ 215) = R
  refine both_q h (if R.1 = -1 then -2 else R.1) (if R.1 = -1 then none else some (2, tv2 R.2.1 R.2.2)) (fun Q hq => ?_) (fun σ3 f3 Q hq => ?_)
  · refine k_100_0 ?_
    refine c_take1 hc (fun σ1 f1 p1 => ?_)
    refine c_startWithin (n := 300) (j := σ 214 4) p1 ((f1 0 13 (by decide)).trans hj) (by decide) (by omega) (fun σ2 f2 s1 s2 => ?_)
    have e : sW c (so (nI c.1) c.2.2.1 (σ 214 4) c.1) 300 0 (σ 215) 0 = R := hR
    rw [e] at s1 s2 ⊢
    have f12' := Fr.tr f1 (Fr.sS f2)
    by_cases hz : R.1 = -1
    · rw [if_pos hz]; rw [if_pos hz, if_pos hz] at hq
      exact hq σ2 f12'
    · rw [if_neg hz]; rw [if_neg hz, if_neg hz] at hq
      rw [s1, s2]
      exact c_tell2 (fun σ3 f3 t3 => hq σ3 ⟨by decide, Fr.tr f12'.cT f3.sTC, t3⟩)
  · refine k_229_0 ?_
    have hc3 := (hc.fr (FrCT f3)).fr (FrR fr12)
    refine r_begin1 hc3 (fun σ4 f4 p4 e4 => ?_)
    have e7 : σ4 214 7 = 0 := (f4 214 7 (by decide)).trans hc3.2.2.2.2.2.2.2.2.2.1
    have fj : σ4 214 4 = σ 214 4 := (f4 214 4 (by decide)).trans (f3 214 4 (by decide))
    have fr4 : Fr scR σ3 σ4 := Fr.tr fr12 (Fr.s226 f4)
    have hreq : REq (σ4 226) (σ 215) := fun i hi => (e4 i (by omega)).trans (f3 215 i (by simp [tC]))
    refine r_findStart (n := 300) (j := σ 214 4) p4 e7 fj (by decide) (by omega) (fun σ5 f5 s5 => ?_)
    have e : sW c (so (nI c.1) c.2.2.1 (σ 214 4) c.1) 300 0 (σ4 226) 0 = R := by rw [sW_cong h9 300 0 _ _ 0 hreq]; exact hR
    rw [e] at s5 ⊢
    have fr5 : Fr scR σ3 σ5 := Fr.tr fr4 (Fr.sRS f5)
    by_cases hz : R.1 = -1
    · rw [if_pos hz]; rw [if_pos hz, if_pos hz] at hq
      exact hq σ5 fr5
    · rw [if_neg hz]; rw [if_neg hz, if_neg hz] at hq
      obtain ⟨s6, s7⟩ := s5.resolve_left hz
      refine r_tell2 (K := fun _ s => Q R.1 s) (g := fun s => s 214 36) (fun σ' f => f 214 36 (by decide)) (fun σ6 f6 t6 => ?_)
      rw [s6, s7] at t6
      exact hq σ6 ⟨Fr.tr fr5.rT f6.sTR, t6⟩
