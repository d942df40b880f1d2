/-! the bluff -/
def orL (d x : Int32) : Int32 := if x = -1 then d else x
def bf1 (d : Int32) (o : Option (Nat × Int32)) : Int32 := o.elim d (fun p => nI p.1)
def bf2 (o : Option (Nat × Int32)) : Int32 := o.elim (-1) (fun p => p.2)
def bfo (y : Nat → Bool) (v : Nat → Int32) : Nat → Option (Nat × Int32)
  | 0 => none
  | k + 1 => if y k = false then bfo y v k else if bf1 (-1) (bfo y v k) = -1 then some (k, v k) else if orL 300 (v k) < orL 300 (bf2 (bfo y v k)) then some (k, v k) else bfo y v k
theorem bfo_1 (y : Nat → Bool) (v : Nat → Int32) (k : Nat) : bfo y v (k + 1) = if y k = false then bfo y v k else if bf1 (-1) (bfo y v k) = -1 then some (k, v k) else if orL 300 (v k) < orL 300 (bf2 (bfo y v k)) then some (k, v k) else bfo y v k := rfl
def okR (v : Nat → Int32) (F : Nat) (o : Option (Nat × Int32)) : Prop := o = none ∨ ∃ f, f < F ∧ o = some (f, v f)
theorem bfo_ok (y : Nat → Bool) (v : Nat → Int32) : ∀ k, okR v k (bfo y v k) := by
  intro k
  induction k with
  | zero => exact Or.inl rfl
  | succ k ih =>
    have up : okR v (k + 1) (bfo y v k) := by
      rcases ih with h | ⟨f, h1, h2⟩
      · exact Or.inl h
      · exact Or.inr ⟨f, by omega, h2⟩
    rw [bfo_1]
    split
    · exact up
    · split
      · exact Or.inr ⟨k, by omega, rfl⟩
      · split
        · exact Or.inr ⟨k, by omega, rfl⟩
        · exact up
theorem nI_ne1 {a : Nat} (ha : a < 2147483648) : ¬ nI a = -1 := fun q => by
  have := nI_pos (n := a) ha
  rw [q] at this
  exact this (by decide)
/-- an answer of a search of 300 minutes -/
def v300 (x : Int32) : Prop := x = -1 ∨ ∃ a, a < 300 ∧ x = nI a
theorem orL_lt {x y : Int32} (hx : v300 x) (hy : v300 y) : (orL 1000000 x < orL 1000000 y) = (orL 300 x < orL 300 y) := by
  have e : ∀ n, n < 300 → (1000000 < nI n) = False ∧ ((300 : Int32) < nI n) = False ∧ (nI n < 1000000) = True ∧ (nI n < (300 : Int32)) = True := fun n hn => by
    refine ⟨eq_false ?_, eq_false ?_, eq_true ?_, eq_true ?_⟩
    · exact nI_nlt (a := 1000000) (by omega) (by omega)
    · exact nI_nlt (a := 300) (by omega) (by omega)
    · exact nI_lt (b := 1000000) (by omega) (by decide)
    · exact nI_lt (b := 300) (by omega) (by decide)
  rcases hx with rfl | ⟨a, ha, rfl⟩ <;> rcases hy with rfl | ⟨b, hb, rfl⟩
  · rfl
  · unfold orL
    rw [if_pos rfl, if_pos rfl, if_neg (nI_ne1 (by omega)), if_neg (nI_ne1 (by omega)), (e b hb).1, (e b hb).2.1]
  · unfold orL
    rw [if_pos rfl, if_pos rfl, if_neg (nI_ne1 (by omega)), if_neg (nI_ne1 (by omega)), (e a ha).2.2.1, (e a ha).2.2.2]
  · unfold orL
    rw [if_neg (nI_ne1 (by omega)), if_neg (nI_ne1 (by omega)), if_neg (nI_ne1 (by omega)), if_neg (nI_ne1 (by omega))]
theorem s_orL {d : Nat} (x : Int32) (σ : zS) (Q : Int32 → zS → Prop) : ZC (d + 1) 152 [.int x] σ Q = Q (orL 300 x) σ :=
  s_of (fun Q h => k_152_0 (by
    unfold orL at h
    by_cases hq : x = -1
    · rw [if_pos hq] at h ⊢; exact h
    · rw [if_neg hq] at h ⊢; exact h)) Q
theorem call_bluff {d e b : Nat} {σ : zS} (h : Inv b σ) (hb : b < 90000000) : Both (d + 8) 112 [.ref 0] (e + 228) 250 [.ref 214] b σ := by
  obtain ⟨c, l, t, ht, hc⟩ := h.ctx
  have h9 := hc.h9
  generalize hv : (fun k => (stR c (σ 214 4) (bg (σ 215) k 1)).1) = v
  have hvk : ∀ k, (stR c (σ 214 4) (bg (σ 215) k 1)).1 = v k := fun k => congrFun hv k
  have hvr : ∀ k, v300 (v k) := fun k => by rw [← hvk]; exact stR_rng
  generalize hy : cyw (σ 215) = y
  generalize hs : (stR c (σ 214 4) (σ 215)).1 = s
  have hok := bfo_ok y v c.1
  have h2r : ∀ k, v300 (bf2 (bfo y v k)) := fun k => by
    rcases bfo_ok y v k with h | ⟨f, -, h⟩
    · rw [h]; exact Or.inl rfl
    · rw [h]; exact hvr f
  have h1 : ∀ k, k ≤ 9 → (bf1 (-2) (bfo y v k) < 0) = (bf1 (-1) (bfo y v k) = -1) := fun k hk => by
    rcases bfo_ok y v k with h | ⟨f, h0, h⟩
    · rw [h]; exact propext ⟨fun _ => rfl, fun _ => by decide⟩
    · rw [h]; exact propext ⟨fun q => absurd q (nI_pos (n := f) (by omega)), fun q => absurd q (nI_ne1 (a := f) (by omega))⟩
  refine both_q h (bf1 (-2) (bfo y v c.1)) (if bf1 (-1) (bfo y v c.1) = -1 then none else some (2, tv2 (bf2 (bfo y v c.1)) s)) (fun Q hq => ?_) (fun σ3 f3 Q hq => ?_)
  · refine k_112_0 ?_
    have hloop := z_for (F := c.1) (P := fun k => ∀ w σ1, Fr scC σ σ1 → Z (d + 7) 112 Q 6 [.ref 0, .int (bf1 (-1) (bfo y v k)), .int (bf2 (bfo y v k)), .int (nI k), w] [] σ1) (fun k hk ih w σ1 f1 => ?_) (fun w σ1 f1 => ?_)
    · exact hloop _ σ Fr.rf
    · refine k_112_6 ?_
      have h215 : σ1 215 = σ 215 := tC_215 f1.cT
      have hc1 := hc.fr (FrCT f1.cT)
      have hcm := hc1.hcm
      rw [h215] at hcm
      rw [hc1.h14, if_pos (nI_lt hk (by omega)), c_canYawn hc1.h14 h9 hcm hk, hy, show nI k + (1 : Int32) = nI (k + 1) from nI_add k 1]
      have ih2 := fun w σ2 f2 => ih w σ2 f2
      rw [bfo_1] at ih2
      cases hyk : y k
      · rw [if_pos hyk] at ih2
        rw [if_pos (show b2i false = 0 from rfl)]
        exact ih2 _ _ f1
      · rw [if_neg (by rw [hyk]; decide)] at ih2
        rw [if_neg (show ¬ b2i true = 0 by decide)]
        refine c_take2 hc f1.cT (fun σ2 f2 p2 => ?_)
        refine c_planT p2 hk (Or.inr rfl) p2.2.2.2.1.2.2.2.2 (fun σ3 f3 p3 => ?_)
        have f13 := Fr.tr f1 (Fr.tr f2 f3)
        refine c_startWithin (n := 300) (j := σ 214 4) p3 ((f13.cT 0 13 (by decide)).trans hc.hj) (by decide) (by omega) (fun σ4 f4 _ _ => ?_)
        have f14 := Fr.tr f13 (Fr.sS f4)
        rw [show (sW c (so (nI c.1) c.2.2.1 (σ 214 4) c.1) 300 0 (bg (σ 215) k 1) 0).1 = v k from hvk k]
        by_cases hz : bf1 (-1) (bfo y v k) = -1
        · rw [if_pos hz] at ih2
          rw [if_pos hz]
          exact ih2 _ _ f14
        · rw [if_neg hz] at ih2
          rw [if_neg hz, s_orL, s_orL]
          by_cases hlt : orL 300 (v k) < orL 300 (bf2 (bfo y v k))
          · rw [if_pos hlt] at ih2 ⊢; exact ih2 _ _ f14
          · rw [if_neg hlt] at ih2 ⊢; exact ih2 _ _ f14
    · refine k_112_6 ?_
      rw [(tC_14 f1.cT).trans hc.h14, if_neg (nI_nlt (Nat.le_refl _) (by omega))]
      by_cases hz : bf1 (-1) (bfo y v c.1) = -1
      · rw [if_pos hz]
        rw [if_pos hz] at hq
        have : bf1 (-2) (bfo y v c.1) = -2 := by
          rcases hok with h | ⟨f, h0, h⟩
          · rw [h]; rfl
          · rw [h] at hz; exact absurd hz (nI_ne1 (a := f) (by omega))
        rw [this] at hq
        exact hq σ1 f1
      · rw [if_neg hz]
        rw [if_neg hz] at hq
        have : bf1 (-2) (bfo y v c.1) = bf1 (-1) (bfo y v c.1) := by
          rcases hok with h | ⟨f, h0, h⟩
          · rw [h] at hz; exact absurd rfl hz
          · rw [h]; rfl
        rw [this] at hq
        refine c_stT0 hc f1.cT 0 (by omega) (fun σ2 f2 => ?_)
        rw [hs]
        refine c_tell2 (fun σ4 f4 t4 => ?_)
        exact hq σ4 ⟨by decide, Fr.tr (Fr.tr f1 f2).cT f4.sTC, t4⟩
  · refine k_250_0 ?_
    have hloop := z_for (F := c.1) (P := fun k => ∀ w σ4, Fr scR σ3 σ4 → Z (e + 227) 250 Q 12 [.ref 214, .int (bf1 (-2) (bfo y v k)), .int (bf2 (bfo y v k)), .int (nI k), w] [] σ4) (fun k hk ih w σ4 f4 => ?_) (fun w σ4 f4 => ?_)
    · exact hloop _ _ fr12
    · refine k_250_12 ?_
      have hR : σ4 214 1 = nI c.1 := (f4.rT 214 1 (by decide)).trans ((f3 214 1 (by decide)).trans hc.hR)
      have h215 : σ4 215 = σ 215 := (tR_215 f4.rT).trans (tC_215 f3)
      rw [hR, if_pos (nI_lt hk (by omega)), r_canYawn hR h9 hk, h215, hy, show nI k + (1 : Int32) = nI (k + 1) from nI_add k 1]
      have ih2 := fun w σ2 f2 => ih w σ2 f2
      rw [bfo_1] at ih2
      cases hyk : y k
      · rw [if_pos hyk] at ih2
        rw [if_pos (show b2i false = 0 from rfl)]
        exact ih2 _ _ f4
      · rw [if_neg (by rw [hyk]; decide)] at ih2
        rw [if_neg (show ¬ b2i true = 0 by decide)]
        refine r_begin2 hc f3 f4.rT (fun σ5 f5' f5 p5 e7 e4 e5 => ?_)
        rw [r_begins226 (by omega)]
        have hreq : REq (σ5 226) (σ 215) := fun i hi => e5 i (by omega)
        have p6 : PF 226 c l t (zput σ5 226 (bg (σ5 226) k 1)) := p5.set (bg_WR h9 hk (Or.inr rfl) p5.2.2.2.2.2.2)
        have k7 : (zput σ5 226 (bg (σ5 226) k 1)) 214 7 = 0 := by simp only [zput_app, Nat.reduceEqDiff, ↓reduceIte]; exact e7
        have kj : (zput σ5 226 (bg (σ5 226) k 1)) 214 4 = σ 214 4 := by simp only [zput_app, Nat.reduceEqDiff, ↓reduceIte]; exact e4
        refine r_findStart (n := 300) (j := σ 214 4) p6 k7 kj (by decide) (by omega) (fun σ9 f9 _ => ?_)
        rw [e226]
        have ev : (sW c (so (nI c.1) c.2.2.1 (σ 214 4) c.1) 300 0 (bg (σ5 226) k 1) 0).1 = v k := (congrArg Prod.fst (sW_cong h9 300 0 _ _ 0 (bg_cong hreq k 1))).trans (hvk k)
        rw [ev]
        have f49 := Fr.tr f4 (Fr.tr f5 (Fr.tr fr226 (Fr.sRS f9)))
        by_cases hz : bf1 (-1) (bfo y v k) = -1
        · rw [if_pos hz] at ih2
          rw [if_pos (by rw [h1 k (by omega)]; exact hz)]
          exact ih2 _ _ f49
        · rw [if_neg hz] at ih2
          rw [if_neg (by rw [h1 k (by omega)]; exact hz), r_late, r_late]
          by_cases hlt : orL 300 (v k) < orL 300 (bf2 (bfo y v k))
          · rw [if_pos hlt] at ih2; rw [if_pos (show (if v k = -1 then (1000000 : Int32) else v k) < (if bf2 (bfo y v k) = -1 then (1000000 : Int32) else bf2 (bfo y v k)) from cast (orL_lt (hvr k) (h2r k)).symm hlt)]; exact ih2 _ _ f49
          · rw [if_neg hlt] at ih2; rw [if_neg (show ¬ (if v k = -1 then (1000000 : Int32) else v k) < (if bf2 (bfo y v k) = -1 then (1000000 : Int32) else bf2 (bfo y v k)) from fun q => hlt (cast (orL_lt (hvr k) (h2r k)) q))]; exact ih2 _ _ f49
    · refine k_250_12 ?_
      rw [(f4.rT 214 1 (by decide)).trans ((f3 214 1 (by decide)).trans hc.hR), if_neg (nI_nlt (Nat.le_refl _) (by omega))]
      by_cases hz : bf1 (-1) (bfo y v c.1) = -1
      · rw [if_pos (by rw [h1 c.1 h9]; exact hz)]
        rw [if_pos hz] at hq
        have : bf1 (-2) (bfo y v c.1) = -2 := by
          rcases hok with h | ⟨f, h0, h⟩
          · rw [h]; rfl
          · rw [h] at hz; exact absurd hz (nI_ne1 (a := f) (by omega))
        rw [this] at hq
        exact hq σ4 f4
      · rw [if_neg (by rw [h1 c.1 h9]; exact hz)]
        rw [if_neg hz] at hq
        refine r_st0 hc f3 f4.rT (by omega) (fun σ5 f5 => ?_)
        rw [hs]
        refine r_tell2 (g := fun _ => s) (K := fun _ s => Q _ s) (fun _ _ => rfl) (fun σ6 f6 t6 => ?_)
        exact hq σ6 ⟨Fr.tr (Fr.tr f4 f5).rT f6.sTR, t6⟩
