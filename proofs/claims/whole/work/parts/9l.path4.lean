/-! the shortest way, gone; path -/
def pN (c : MC) (r : Nat → Int32) (v : Nat → Nat) (f : Nat) : Nat → Bool := fun o => eP c r o f && decide (v o + dlN c o = v f)
def nxt (c : MC) (r : Nat → Int32) (v : Nat → Nat) (f : Nat) : Nat := (ff (pN c r v f) c.1 0).toNatClampNeg
def pth (c : MC) (r : Nat → Int32) (v : Nat → Nat) : Nat → Nat → Nat
  | f, 0 => f
  | f, i + 1 => pth c r v (nxt c r v f) i
theorem pth_1 (c : MC) (r : Nat → Int32) (v : Nat → Nat) : ∀ i f, pth c r v f (i + 1) = nxt c r v (pth c r v f i) := by
  intro i
  induction i with
  | zero => intro f; rfl
  | succ i ih => intro f; exact ih (nxt c r v f)
theorem nxt_ok {c : MC} {r : Nat → Int32} {v : Nat → Nat} {s f : Nat} (h9 : c.1 ≤ 9) (h1 : DW c.1 (eP c r) (wP c) s v) (h2 : DS c.1 (eP c r) (wP c) v) (hf : f < c.1) (hs : f ≠ s) (hv : v f < 1000000) : nxt c r v f < c.1 ∧ pN c r v f (nxt c r v f) = true ∧ ∀ i, i < nxt c r v f → pN c r v f i = false := by
  obtain ⟨o, k1, k2, k3, k4⟩ := d_tight h1 h2 hf hs hv
  have k4' : v f = v o + dlN c o := k4
  have hp : pN c r v f o = true := by
    unfold pN
    rw [k2, decide_eq_true k4'.symm]; rfl
  rcases ff_cases (p := pN c r v f) c.1 0 with ⟨-, q2⟩ | ⟨j, -, j1, j2, j3, j4⟩
  · rw [q2 o (by omega) (by omega)] at hp; cases hp
  · have e : nxt c r v f = j := by unfold nxt; rw [j3, nI_clamp (by omega)]
    rw [e]
    exact ⟨by omega, j2, fun i hi => j4 i (by omega) hi⟩
theorem pth_end {c : MC} {r : Nat → Int32} {v : Nat → Nat} {s : Nat} (h9 : c.1 ≤ 9) (hdl : dlOk c) (h1 : DW c.1 (eP c r) (wP c) s v) (h2 : DS c.1 (eP c r) (wP c) v) : ∀ m f, f < c.1 → v f < 1000000 → rkN v c.1 (v f) ≤ m → ∃ n, n ≤ m ∧ pth c r v f n = s ∧ (∀ i, i < n → pth c r v f i ≠ s) ∧ ∀ i, i ≤ n → pth c r v f i < c.1 ∧ v (pth c r v f i) < 1000000 := by
  intro m
  induction m with
  | zero =>
    intro f hf hv hr
    by_cases q : f = s
    · exact ⟨0, Nat.le_refl 0, q, fun i hi => absurd hi (Nat.not_lt_zero i), fun i hi => by rw [show i = 0 by omega]; exact ⟨hf, hv⟩⟩
    · obtain ⟨o, k1, k2, k3, k4⟩ := d_tight h1 h2 hf q hv
      have k4' : v f = v o + dlN c o := k4
      have := (hdl o k1).2.1
      have := rk_lt (v := v) (F := c.1) (f := f) (o := o) k1 (by omega)
      omega
  | succ m ih =>
    intro f hf hv hr
    by_cases q : f = s
    · exact ⟨0, Nat.zero_le _, q, fun i hi => absurd hi (Nat.not_lt_zero i), fun i hi => by rw [show i = 0 by omega]; exact ⟨hf, hv⟩⟩
    · obtain ⟨n1, n2, -⟩ := nxt_ok h9 h1 h2 hf q hv
      unfold pN at n2
      rw [Bool.and_eq_true] at n2
      have hw := of_decide_eq_true n2.2
      have hd := (hdl _ n1).2.1
      have hlt := rk_lt (v := v) (F := c.1) (f := f) (o := nxt c r v f) n1 (by omega)
      obtain ⟨n, p1, p2, p3, p4⟩ := ih (nxt c r v f) n1 (by omega) (by omega)
      refine ⟨n + 1, by omega, p2, fun i hi => ?_, fun i hi => ?_⟩
      · cases i with
        | zero => exact q
        | succ i => exact p3 i (by omega)
      · cases i with
        | zero => exact ⟨hf, hv⟩
        | succ i => exact p4 i (by omega)
theorem c_next {d : Nat} {σ : zS} {c : MC} {r : Nat → Int32} {v : Nat → Nat} {s f : Nat} (hc : CW 14 c σ) (h45 : σ 17 5 = r 45) (hdl : dlOk c) (ha : TA c.1 v σ) (h1 : DW c.1 (eP c r) (wP c) s v) (h2 : DS c.1 (eP c r) (wP c) v) (hf : f < c.1) (hs : f ≠ s) (hv : v f < 1000000) (hvb : ∀ o, o < c.1 → v o < 1000000 → v o < 900000) (Q : Int32 → zS → Prop) : ZC (d + 6) 163 [.ref 0, .int (nI f)] σ Q = Q (nI (nxt c r v f)) σ := by
  have h9 := hc.2.1
  obtain ⟨n1, n2, n3⟩ := nxt_ok h9 h1 h2 hf hs hv
  refine s_of (fun Q hq => k_163_0 ?_) Q
  have zf : zin (nI f) 10 = true := zin_nI (by omega) (by decide)
  refine z_for (F := nxt c r v f) (P := fun o => Z (d + 5) 163 Q 2 [.ref 0, .int (nI f), .int (nI o)] [] σ) (fun o ho ih => ?_) ?_
  · have hp := n3 o ho
    refine k_163_2 ?_
    have zo : zin (nI o) 10 = true := zin_nI (by omega) (by decide)
    have zo9 : zin (nI o) 9 = true := zin_nI (by omega) (by decide)
    simp only [zo, zf, zo9, ↓reduceIte]
    rw [hc.1, if_pos (nI_lt (by omega) (by omega)), zcl (by omega), zcl (by omega), ha o (by omega), show nI o + (1 : Int32) = nI (o + 1) from nI_add o 1]
    by_cases hvo : v o < 1000000
    · have hb := hvb o (by omega) hvo
      rw [tI_lt hvo, if_neg (show ¬ nI (v o) = -1 from fun q => by
        have := congrArg Int32.toInt q
        rw [nI_toInt (by omega)] at this
        have e2 : (-1 : Int32).toInt = -1 := by decide
        omega), c_isStep hc h45 hf (by omega)]
      unfold pN at hp
      cases hE : eP c r o f
      · rw [if_pos (show b2i false = 0 from rfl)]
        exact ih
      · rw [hE, Bool.true_and] at hp
        obtain ⟨d1, d2, d3⟩ := hdl o (by omega)
        have hne := of_decide_eq_false hp
        rw [if_neg (show ¬ b2i true = 0 by decide), (hc.2.2.1 o (by omega)).1, d1, ha o (by omega), tI_lt hvo, nI_add, ha f hf, tI_lt hv, if_neg (fun q => hne (by have := (nI_eq (by omega) (by omega)).mp q; omega))]
        exact ih
    · rw [tI_ge hvo, if_pos rfl]
      exact ih
  · generalize hj : nxt c r v f = o at n1 n2 n3 hq
    refine k_163_2 ?_
    have zo : zin (nI o) 10 = true := zin_nI (by omega) (by decide)
    have zo9 : zin (nI o) 9 = true := zin_nI (by omega) (by decide)
    unfold pN at n2
    rw [Bool.and_eq_true] at n2
    have hw := of_decide_eq_true n2.2
    obtain ⟨d1, d2, d3⟩ := hdl o n1
    have hvo : v o < 1000000 := by omega
    simp only [zo, zf, zo9, ↓reduceIte]
    rw [hc.1, if_pos (nI_lt n1 (by omega)), zcl (by omega), zcl (by omega), ha o n1, tI_lt hvo, if_neg (show ¬ nI (v o) = -1 from fun q => by
        have := congrArg Int32.toInt q
        rw [nI_toInt (by omega)] at this
        have e2 : (-1 : Int32).toInt = -1 := by decide
        omega), c_isStep hc h45 hf n1, n2.1, if_neg (show ¬ b2i true = 0 by decide), (hc.2.2.1 o n1).1, d1, ha o n1, tI_lt hvo, nI_add, ha f hf, tI_lt hv, if_pos (by congr 1; omega)]
    exact hq
theorem r_next {d : Nat} {x1 x3 : Int32} {σ : zS} {c : MC} {r : Nat → Int32} {v : Nat → Nat} {s f : Nat} (h9 : c.1 ≤ 9) (hg : RG c r σ) (hdl : dlOk c) (ha : FB c.1 v σ) (h1 : DW c.1 (eP c r) (wP c) s v) (h2 : DS c.1 (eP c r) (wP c) v) (hf : f < c.1) (hs : f ≠ s) (hv : v f < 1000000) {Q : Int32 → zS → Prop} (hq : ZC (d + 3) 174 [.ref 214, .int (nI (nxt c r v f))] σ (fun _ s3 => Z (d + 3) 243 Q 218 [.ref 214, .int x1, .int (nI s), .int x3, .int (nI (nxt c r v f)), .int (nI (nxt c r v f))] [] s3)) : Z (d + 3) 243 Q 227 [.ref 214, .int x1, .int (nI s), .int x3, .int (nI f), .int 0] [] σ := by
  obtain ⟨n1, n2, n3⟩ := nxt_ok h9 h1 h2 hf hs hv
  have zf : zin (nI f) 9 = true := zin_nI (by omega) (by decide)
  refine z_for (F := nxt c r v f) (P := fun o => Z (d + 3) 243 Q 227 [.ref 214, .int x1, .int (nI s), .int x3, .int (nI f), .int (nI o)] [] σ) (fun o ho ih => ?_) ?_
  · have hp := n3 o ho
    have zo : zin (nI o) 9 = true := zin_nI (by omega) (by decide)
    refine k_243_227 ?_
    simp only [zo, zf, ↓reduceIte]
    rw [r_leads h9 hg hf (by omega), zcl (by omega), zcl (by omega), show nI o + (1 : Int32) = nI (o + 1) from nI_add o 1]
    unfold pN at hp
    cases hE : eP c r o f
    · rw [if_pos (show b2i false = 0 from rfl)]
      exact ih
    · rw [hE, Bool.true_and] at hp
      have hne := of_decide_eq_false hp
      obtain ⟨d1, d2, d3⟩ := hdl o (by omega)
      have hvo := h1.2.1 o (by omega)
      rw [if_neg (show ¬ b2i true = 0 by decide), ha o (by omega), ha f hf, hg.2.2.2, d1, nI_add, if_neg (fun q => hne ((nI_eq (by omega) (by omega)).mp q))]
      exact ih
  · generalize hj : nxt c r v f = o at n1 n2 n3 hq
    have zo : zin (nI o) 9 = true := zin_nI (by omega) (by decide)
    refine k_243_227 ?_
    unfold pN at n2
    rw [Bool.and_eq_true] at n2
    have hw := of_decide_eq_true n2.2
    obtain ⟨d1, d2, d3⟩ := hdl o n1
    simp only [zo, zf, ↓reduceIte]
    rw [r_leads h9 hg hf n1, n2.1, if_neg (show ¬ b2i true = 0 by decide), zcl (by omega), zcl (by omega), ha o n1, ha f hf, hg.2.2.2, d1, nI_add, if_pos (by rw [hw])]
    exact hq
/-- sums of delays are small -/
theorem d_small {c : MC} {r : Nat → Int32} {v : Nat → Nat} {s : Nat} (hdl : dlOk c) (h1 : DW c.1 (eP c r) (wP c) s v) (h2 : DS c.1 (eP c r) (wP c) v) : ∀ m f, f < c.1 → v f < 1000000 → rkN v c.1 (v f) ≤ m → v f ≤ 9 * m := by
  intro m
  induction m with
  | zero =>
    intro f hf hv hr
    by_cases q : f = s
    · rw [q, h1.1]; exact Nat.zero_le _
    · obtain ⟨o, k1, k2, k3, k4⟩ := d_tight h1 h2 hf q hv
      have k4' : v f = v o + dlN c o := k4
      have := (hdl o k1).2.1
      have := rk_lt (v := v) (F := c.1) (f := f) (o := o) k1 (by omega)
      omega
  | succ m ih =>
    intro f hf hv hr
    by_cases q : f = s
    · rw [q, h1.1]; exact Nat.zero_le _
    · obtain ⟨o, k1, k2, k3, k4⟩ := d_tight h1 h2 hf q hv
      have k4' : v f = v o + dlN c o := k4
      have d := hdl o k1
      have := rk_lt (v := v) (F := c.1) (f := f) (o := o) k1 (by omega)
      have := ih o k1 k3 (by omega)
      omega
theorem call_path {d e b : Nat} {σ : zS} (x y : Int32) (h : Inv b σ) : Both (d + 7) 109 [.ref 0, .int x, .int y] (e + 4) 243 [.ref 214, .int x, .int y] b σ := by
  obtain ⟨c, l, t, ht, hc⟩ := h.ctx
  have h9 := hc.h9
  have hdl := h.hdl hc
  have hR3 : ∀ σ3, Fr tC σ σ3 → (zup σ3 214 12 0) 214 1 = nI c.1 := fun σ3 f3 => (fr12 (σ := σ3) 214 1 (by decide)).trans ((f3 214 1 (by decide)).trans hc.hR)
  have h215 : ∀ σ3, Fr tC σ σ3 → (zup σ3 214 12 0) 215 = σ 215 := fun σ3 f3 => (tR_215 fr12.rT).trans (tC_215 f3)
  have h45 : σ 17 5 = σ 215 45 := hc.hcm.2.2.2.1
  have p0 : ∀ (x : Int32), x < 0 ∨ nI c.1 ≤ x → ∀ (dd : Nat) (Q : Int32 → zS → Prop), ZC (dd + 4) 135 [.ref 0, .int x] σ Q = Q 0 σ := fun x hx dd Q => s_of (fun Q hq => k_135_0 (by rw [c_isFace0 hc.h14 hx, if_pos rfl]; exact hq)) Q
  rcases faceC x h9 with hx | ⟨a, ha, rfl⟩
  · refine both_q h (-1) none (fun Q hq => ?_) (fun σ3 f3 Q hq => ?_)
    · refine k_109_0 ?_
      rw [p0 x hx, if_pos rfl]
      exact hq σ Fr.rf
    · refine k_243_0 ?_
      rw [r_isFace0 (hR3 σ3 f3) h9 hx, if_pos rfl]
      exact hq _ fr12
  rcases faceC y h9 with hy | ⟨s, hs, rfl⟩
  · refine both_q h (-1) none (fun Q hq => ?_) (fun σ3 f3 Q hq => ?_)
    · refine k_109_0 ?_
      rw [c_present hc.2.2.1 h45 ha, p0 y hy, if_pos (show (0 : Int32) = 0 from rfl)]
      split
      · exact hq σ Fr.rf
      · exact hq σ Fr.rf
    · refine k_243_0 ?_
      rw [r_isFace1 (hR3 σ3 f3) h9 ha, if_neg (by decide), r_isFace0 (hR3 σ3 f3) h9 hy, if_pos rfl]
      exact hq _ fr12
  cases hpa : zb (σ 215 45) a
  case true =>
    refine both_q h (-1) none (fun Q hq => ?_) (fun σ3 f3 Q hq => ?_)
    · refine k_109_0 ?_
      rw [c_present hc.2.2.1 h45 ha, hpa, if_pos (show b2i (!true) = 0 from rfl)]
      exact hq σ Fr.rf
    · refine k_243_0 ?_
      rw [r_isFace1 (hR3 σ3 f3) h9 ha, if_neg (by decide), r_isFace1 (hR3 σ3 f3) h9 hs, if_neg (by decide), s_hasR _ (by omega), h215 σ3 f3, hpa, if_neg (show ¬ b2i true = 0 by decide)]
      exact hq _ fr12
  case false =>
  cases hps : zb (σ 215 45) s
  case true =>
    refine both_q h (-1) none (fun Q hq => ?_) (fun σ3 f3 Q hq => ?_)
    · refine k_109_0 ?_
      rw [c_present hc.2.2.1 h45 ha, hpa, if_neg (show ¬ b2i (!false) = 0 by decide), c_present hc.2.2.1 h45 hs, hps, if_pos (show b2i (!true) = 0 from rfl)]
      exact hq σ Fr.rf
    · refine k_243_0 ?_
      rw [r_isFace1 (hR3 σ3 f3) h9 ha, if_neg (by decide), r_isFace1 (hR3 σ3 f3) h9 hs, if_neg (by decide), s_hasR _ (by omega), h215 σ3 f3, hpa, if_pos (show b2i false = 0 from rfl), s_hasR _ (by omega), hps, if_neg (show ¬ b2i true = 0 by decide)]
      exact hq _ fr12
  case false =>
  obtain ⟨v, v1, v2⟩ := d_exists c.1 (eP c (σ 215)) (wP c) s
  have hsm : ∀ f, f < c.1 → v f < 1000000 → v f ≤ 81 := fun f hf hv => by
    have := d_small hdl v1 v2 (rkN v c.1 (v f)) f hf hv (Nat.le_refl _)
    have := rk_F (v := v) (F := c.1) hf
    omega
  have hce : ∀ σ1, Fr p191 σ σ1 → Fr scC σ σ1 := fun σ1 f1 => fr_scC f1 (fun o i q => by have := of_decide_eq_true q; subst this; exact sc_191 i)
  have hc3 : ∀ σ3, Fr tC σ σ3 → RG c (σ 215) (zup σ3 214 12 0) := fun σ3 f3 => by
    have hc3 := (hc.fr (FrCT f3)).fr (FrR fr12)
    exact ⟨hR3 σ3 f3, h215 σ3 f3, hc3.2.2.2.2.2.2.2.1.2.2.1, hc3.2.2.2.2.2.2.2.1.2.1⟩
  have fr229 : ∀ {σa σb : zS}, Fr p229 σa σb → Fr scR σa σb := fun f => fr_scR f (fun o i q => by have := of_decide_eq_true q; subst this; rfl)
  -- what both do ahead of the way
  have cbeg : ∀ Q : Int32 → zS → Prop, (∀ σ5, Fr p191 σ σ5 → TA c.1 v σ5 → (if (σ5 191 a) = -1 then Q (-2) σ5 else Z (d + 6) 109 Q 49 [.ref 0, .int (nI a), .int (nI s), .int (σ5 191 a), .int (nI a), .int 0] [] (zup σ5 0 12 0))) → ZC (d + 7) 109 [.ref 0, .int (nI a), .int (nI s)] σ Q := fun Q hq => by
    refine k_109_0 ?_
    rw [c_present hc.2.2.1 h45 ha, hpa, if_neg (show ¬ b2i (!false) = 0 by decide), c_present hc.2.2.1 h45 hs, hps, if_neg (show ¬ b2i (!false) = 0 by decide)]
    refine c_measureTo hc.2.2.1 h45 hdl hs v1 v2 (fun σ5 f5 a5 => ?_)
    rw [if_pos (zin_nI (by omega) (by decide)), zcl (by omega)]
    exact hq σ5 f5 a5
  have rbeg : ∀ σ3, Fr tC σ σ3 → ∀ Q : Int32 → zS → Prop, (∀ σ5 w5, Fr p229 (zup σ3 214 12 0) σ5 → FB c.1 v σ5 → (if (σ5 229 a) < 1000000 then Z (e + 3) 243 Q 218 [.ref 214, .int (nI a), .int (nI s), .int 0, .int (nI a), w5] [] (zup σ5 214 11 0) else Q (-2) σ5)) → ZC (e + 4) 243 [.ref 214, .int (nI a), .int (nI s)] σ3 Q := fun σ3 f3 Q hq => by
    refine k_243_0 ?_
    rw [r_isFace1 (hR3 σ3 f3) h9 ha, if_neg (by decide), r_isFace1 (hR3 σ3 f3) h9 hs, if_neg (by decide), s_hasR _ (by omega), h215 σ3 f3, hpa, if_pos (show b2i false = 0 from rfl), s_hasR _ (by omega), hps, if_pos (show b2i false = 0 from rfl)]
    refine r_measure h9 hdl hs (hc3 σ3 f3) v1 v2 (fun σ5 w4 w5 f5 a5 => ?_) _ _
    refine k_243_87 ?_
    rw [if_pos rfl, if_pos (zin_nI (by omega) (by decide)), zcl (by omega)]
    exact hq σ5 _ f5 a5
  have hva := v1.2.1 a ha
  by_cases hfin : v a < 1000000
  · have hra := rk_F (v := v) (F := c.1) ha
    obtain ⟨n, n1, n2, n3, n4⟩ := pth_end h9 hdl v1 v2 8 a ha hfin (by omega)
    refine both_q h (nI (v a)) (some (n, fun i => nI (pth c (σ 215) v a (i + 1)))) (fun Q hq => ?_) (fun σ3 f3 Q hq => ?_)
    · refine cbeg Q (fun σ5 f5 a5 => ?_)
      rw [a5 a ha, tI_lt hfin, if_neg (nI_m1 (by have := hsm a ha hfin; omega))]
      have hloop := z_for (F := n) (P := fun i => ∀ σ6, Fr tC σ σ6 → (∀ j, σ6 191 j = σ5 191 j) → σ6 0 12 = nI i → (∀ j, j < i → σ6 190 j = nI (pth c (σ 215) v a (j + 1))) → Z (d + 6) 109 Q 49 [.ref 0, .int (nI a), .int (nI s), .int (nI (v a)), .int (nI (pth c (σ 215) v a i)), .int (nI i)] [] σ6) (fun i hi ih => ?_) ?_
      · exact hloop _ (Fr.tr (hce σ5 f5).cT (Fr.up (by decide))) (fun j => rfl) rfl (fun j hj => absurd hj (Nat.not_lt_zero j))
      · intro σ6 f6 e6 e12 e190
        refine k_109_49 ?_
        obtain ⟨q1, q2⟩ := n4 i (by omega)
        obtain ⟨q3, q4⟩ := n4 (i + 1) (by omega)
        have hc6 := hc.fr (FrCT f6)
        rw [if_pos (show nI i < 9 from nI_lt (b := 9) (by omega) (by decide)), if_neg (fun q => n3 i hi ((nI_eq (by omega) (by omega)).mp q)), if_neg (nI_m1 (by omega)), c_next (v := v) (r := σ 215) hc6.2.2.1 ((f6 17 5 (by decide)).trans h45) hdl (fun g hg => by rw [e6 g]; exact a5 g hg) v1 v2 q1 (n3 i hi) q2 (fun o ho hv => by have := hsm o ho hv; omega), e12, if_pos (zin_nI (by omega) (by decide)), zcl (by omega), show nI i + (1 : Int32) = nI (i + 1) from nI_add i 1, ← pth_1]
        refine ih _ (Fr.tr f6 (Fr.tr (Fr.up (by simp [tC, scrT, dTold])) (Fr.up (by decide)))) (fun j => e6 j) rfl (fun j hj => ?_)
        simp only [zup_eq, zput_app, Nat.reduceEqDiff, ↓reduceIte]
        by_cases q : j = i
        · rw [q, upd_eq]
        · rw [upd_ne q]; exact e190 j (by omega)
      · intro σ6 f6 e6 e12 e190
        refine k_109_49 ?_
        have fin := hq σ6 ⟨by omega, f6, e12, e190⟩
        rw [n2, if_pos (rfl : nI s = nI s)]
        split
        · exact fin
        · exact fin
    · refine rbeg σ3 f3 Q (fun σ5 w5 f5 a5 => ?_)
      rw [a5 a ha, if_pos (show nI (v a) < 1000000 from nI_lt (b := 1000000) hfin (by decide))]
      have hg5 := (hc3 σ3 f3).f9 f5
      have hloop := z_for (F := n) (P := fun i => ∀ σ6 w5, Fr frTR σ5 σ6 → TLr i (fun j => nI (pth c (σ 215) v a (j + 1))) σ6 → Z (e + 3) 243 Q 218 [.ref 214, .int (nI a), .int (nI s), .int 0, .int (nI (pth c (σ 215) v a i)), w5] [] σ6) (fun i hi ih => ?_) ?_
      · exact hloop _ _ fr11 (TLr.zero _ _)
      · intro σ6 w5 f6 t6
        refine k_243_218 ?_
        obtain ⟨q1, q2⟩ := n4 i (by omega)
        have h6 : ∀ o i, o ≠ 214 → o ≠ 220 → σ6 o i = σ5 o i := fun o i p1 p2 => f6 o i (decide_eq_false (by omega))
        rw [if_neg (fun q => n3 i hi ((nI_eq (by omega) (by omega)).mp q))]
        refine r_next (v := v) (r := σ 215) h9 (hg5.fr (f6 214 1 (by decide)) (fun o i p1 p2 => h6 o i (by omega) (by omega))) hdl (fun g hg => (h6 229 g (by decide) (by decide)).trans (a5 g hg)) v1 v2 q1 (n3 i hi) q2 ?_
        refine r_tellN t6 (by omega) (fun σ7 f7 t7 => ?_)
        rw [← pth_1]
        rw [← pth_1] at t7
        refine ih σ7 _ (Fr.tr f6 f7) ⟨t7.1, fun j hj => ?_⟩
        rw [t7.2 j hj]
        by_cases q : j = i
        · rw [q, upd_eq]
        · rw [upd_ne q]
      · intro σ6 w5 f6 t6
        refine k_243_218 ?_
        have h6 : σ6 229 a = nI (v a) := (f6 229 a (by simp [frTR])).trans (a5 a ha)
        rw [n2, if_pos (rfl : nI s = nI s), if_pos (zin_nI (by omega) (by decide)), zcl (by omega), h6]
        exact hq σ6 ⟨Fr.tr fr12.rT (Fr.tr (fr229 f5).rT f6.sTR), t6⟩
  · refine both_q h (-2) none (fun Q hq => ?_) (fun σ3 f3 Q hq => ?_)
    · refine cbeg Q (fun σ5 f5 a5 => ?_)
      rw [a5 a ha, tI_ge hfin, if_pos rfl]
      exact hq σ5 (hce σ5 f5)
    · refine rbeg σ3 f3 Q (fun σ5 w5 f5 a5 => ?_)
      rw [a5 a ha, if_neg (show ¬ nI (v a) < 1000000 from nI_nlt (b := 1000000) (by omega) (by omega))]
      exact hq σ5 (Fr.tr fr12 (fr229 f5))
