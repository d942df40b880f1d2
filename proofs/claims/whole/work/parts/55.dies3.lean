/-! dies, everlasting: the calls -/
theorem Ctx.h45 {c : MC} {l : List Int32} {t : Nat} {σ : zS} (h : Ctx c l t σ) : σ 17 5 = σ 215 45 := h.hcm.2.2.2.1
theorem tC_17 {σ σ' : zS} (h : Fr tC σ σ') : σ' 17 5 = σ 17 5 := h 17 5 (by decide)
theorem InF0 (F : Nat) : InF F 0 := fun f _ q => by rw [zb_0] at q; cases q
/-- dies() of a face that is not away -/
def diV (c : MC) (r : Nat → Int32) (f : Nat) (x : Int32) : Int32 := dI c 300 1 (drow r c.1 f (r 45 ||| x))
theorem h300 (σ3 : zS) {c : MC} {l : List Int32} {t : Nat} {σ : zS} (hc : Ctx c l t σ) (f3 : Fr tC σ σ3) : (zup σ3 214 12 0) 214 1 = nI c.1 := ((fr12 (σ := σ3)) 214 1 (by decide)).trans ((tC_1 f3).trans hc.hR)
theorem call_dies {d e b : Nat} {σ : zS} (x : Int32) (h : Inv b σ) (hb : b < 90000000) : Both (d + 7) 105 [.ref 0, .int x] (e + 228) 238 [.ref 214, .int x] b σ := by
  obtain ⟨c, l, t, ht, hc⟩ := h.ctx
  have h9 := hc.h9
  rcases faceC x h9 with hx | ⟨f, hf, rfl⟩
  · refine both_q h (-1) none (fun Q hq => ?_) (fun σ3 f3 Q hq => ?_)
    · refine k_105_0 ?_
      rw [c_isFace0 hc.h14 hx, if_pos rfl]
      exact hq σ Fr.rf
    · refine k_238_0 ?_
      rw [r_isFace0 (h300 σ3 hc f3) h9 hx, if_pos rfl]
      exact hq _ fr12
  have h215 : ∀ σ3, Fr tC σ σ3 → (zup σ3 214 12 0) 215 = σ 215 := fun σ3 f3 => (tR_215 fr12.rT).trans (tC_215 f3)
  cases ha : zb (σ 215 45) f
  · refine both_q h (diV c (σ 215) f 0) none (fun Q hq => ?_) (fun σ3 f3 Q hq => ?_)
    · refine k_105_0 ?_
      rw [c_isFace1 hc.h14 h9 hf, if_neg (by decide), hc.h45, s_hasN _ (by omega), ha, if_pos (by decide)]
      exact c_diesWithout hc Fr.rf hf (InF0 _) (by omega) (fun σ' f' => hq σ' f')
    · refine k_238_0 ?_
      rw [r_isFace1 (h300 σ3 hc f3) h9 hf, if_neg (by decide), h215 σ3 f3, s_hasR _ (by omega), ha, if_pos (by decide)]
      refine r_diesIn hc f3 fr12 hf (by omega) (fun σ' f' => ?_)
      have hq' := hq σ' f'
      unfold diV at hq'
      rcases dI_cases (c := c) 300 1 (drow (σ 215) c.1 f (σ 215 45 ||| 0)) with hd | ⟨m, hm1, hm2, hd⟩
      · rw [hd] at hq' ⊢
        rw [if_pos rfl, if_pos rfl]; exact hq'
      · rw [hd] at hq' ⊢
        have hk2 : ¬ nI m = -2 := by
          intro q
          have : (nI m).toInt = (-2 : Int32).toInt := by rw [q]
          rw [nI_toInt (by omega), show (-2 : Int32).toInt = -2 from by decide] at this
          omega
        rw [if_neg hk2, if_neg (nI_m1 (by omega))]; exact hq'
  · refine both_q h (-3) none (fun Q hq => ?_) (fun σ3 f3 Q hq => ?_)
    · refine k_105_0 ?_
      rw [c_isFace1 hc.h14 h9 hf, if_neg (by decide), hc.h45, s_hasN _ (by omega), ha, if_neg (by decide)]
      exact hq σ Fr.rf
    · refine k_238_0 ?_
      rw [r_isFace1 (h300 σ3 hc f3) h9 hf, if_neg (by decide), h215 σ3 f3, s_hasR _ (by omega), ha, if_neg (by decide)]
      exact hq _ fr12
theorem nI_m2 {k : Nat} (h : k < 100000) : ¬ nI k = -2 := by
  intro q
  have : (nI k).toInt = (-2 : Int32).toInt := by rw [q]
  rw [nI_toInt (by omega), show (-2 : Int32).toInt = -2 from by decide] at this
  omega
theorem diV_m1 {c : MC} {r : Nat → Int32} {f : Nat} {x : Int32} : ((if diV c r f x = -2 then (-1 : Int32) else diV c r f x) = -1) ↔ diV c r f x = -2 := by
  unfold diV
  rcases dI_cases (c := c) 300 1 (drow r c.1 f (r 45 ||| x)) with hd | ⟨m, hm1, hm2, hd⟩
  · rw [hd, if_pos rfl]; exact ⟨fun _ => rfl, fun _ => rfl⟩
  · rw [hd, if_neg (nI_m2 (by omega))]
    exact ⟨fun q => absurd q (nI_m1 (by omega)), fun q => absurd q (nI_m2 (by omega))⟩
theorem call_everlasting {d e b : Nat} {σ : zS} (h : Inv b σ) (hb : b < 90000000) : Both (d + 7) 106 [.ref 0] (e + 228) 239 [.ref 214] b σ := by
  obtain ⟨c, l, t, ht, hc⟩ := h.ctx
  have h9 := hc.h9
  generalize hp : (fun f => !zb (σ 215 45) f && decide (diV c (σ 215) f 0 = -2)) = p
  have hp1 : ∀ f, p f = (!zb (σ 215 45) f && decide (diV c (σ 215) f 0 = -2)) := fun f => by rw [← hp]
  refine both_q h (bs p c.1) none (fun Q hq => ?_) (fun σ3 f3 Q hq => ?_)
  · refine k_106_0 ?_
    refine z_for (F := c.1) (P := fun k => ∀ σ1, Fr scC σ σ1 → Z (d + 6) 106 Q 4 [.ref 0, .int (bs p k), .int (nI k)] [] σ1) (fun k hk ih => ?_) ?_ σ Fr.rf
    · intro σ1 f1
      refine k_106_4 ?_
      rw [(tC_14 f1.cT).trans hc.h14, if_pos (nI_lt hk (by omega)), (tC_17 f1.cT).trans hc.h45, s_hasN _ (by omega), nI_1]
      have hb1 := bs_1 p k
      rw [hp1] at hb1
      cases ha : zb (σ 215 45) k
      · rw [if_pos (by decide)]
        rw [ha] at hb1
        refine c_diesWithout hc f1 hk (InF0 _) (by omega) (fun σ2 f2 => ?_)
        rw [show dI c 300 1 (drow (σ 215) c.1 k (σ 215 45 ||| 0)) = diV c (σ 215) k 0 from rfl]
        by_cases hz : diV c (σ 215) k 0 = -2
        · rw [if_pos hz, s_bit]
          rw [decide_eq_true hz] at hb1
          simp only [Bool.not_false, Bool.and_self, ↓reduceIte] at hb1
          rw [← hb1]
          exact ih σ2 f2
        · rw [if_neg hz]
          rw [decide_eq_false hz] at hb1
          simp only [Bool.and_false, Bool.false_eq_true, ↓reduceIte] at hb1
          rw [← hb1]
          exact ih σ2 f2
      · rw [if_neg (by decide)]
        rw [ha] at hb1
        simp only [Bool.not_true, Bool.false_and, Bool.false_eq_true, ↓reduceIte] at hb1
        rw [← hb1]
        exact ih σ1 f1
    · intro σ1 f1
      refine k_106_4 ?_
      rw [(tC_14 f1.cT).trans hc.h14, if_neg (nI_nlt (Nat.le_refl _) (by omega))]
      exact hq σ1 f1
  · refine k_239_0 ?_
    refine z_for (F := c.1) (P := fun k => ∀ σ1, Fr scR σ3 σ1 → Z (e + 227) 239 Q 9 [.ref 214, .int (bs p k), .int (nI k)] [] σ1) (fun k hk ih => ?_) ?_ _ fr12
    · intro σ1 f1
      refine k_239_9 ?_
      rw [(tR_1 f1.rT).trans ((tC_1 f3).trans hc.hR), if_pos (nI_lt hk (by omega)), (tR_215 f1.rT).trans (tC_215 f3), s_hasR _ (by omega), nI_1]
      have hb1 := bs_1 p k
      rw [hp1] at hb1
      cases ha : zb (σ 215 45) k
      · rw [if_pos (by decide)]
        rw [ha] at hb1
        refine r_diesIn hc f3 f1 hk (by omega) (fun σ2 f2 => ?_)
        rw [show dI c 300 1 (drow (σ 215) c.1 k (σ 215 45 ||| 0)) = diV c (σ 215) k 0 from rfl]
        have hd := diV_m1 (c := c) (r := σ 215) (f := k) (x := 0)
        by_cases hz : diV c (σ 215) k 0 = -2
        · rw [if_pos (hd.mpr hz)]
          rw [decide_eq_true hz] at hb1
          simp only [Bool.not_false, Bool.and_self, ↓reduceIte] at hb1
          rw [← hb1]
          exact ih σ2 f2
        · rw [if_neg (fun q => hz (hd.mp q))]
          rw [decide_eq_false hz] at hb1
          simp only [Bool.and_false, Bool.false_eq_true, ↓reduceIte] at hb1
          rw [← hb1]
          exact ih σ2 f2
      · rw [if_neg (by decide)]
        rw [ha] at hb1
        simp only [Bool.not_true, Bool.false_and, Bool.false_eq_true, ↓reduceIte] at hb1
        rw [← hb1]
        exact ih σ1 f1
    · intro σ1 f1
      refine k_239_9 ?_
      rw [(tR_1 f1.rT).trans ((tC_1 f3).trans hc.hR), if_neg (nI_nlt (Nat.le_refl _) (by omega))]
      exact hq σ1 f1
