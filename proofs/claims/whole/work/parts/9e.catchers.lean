/-! who would catch a yawn -/
theorem rc_18 {c : MC} {q : Nat → Int32} {ys ms : Int32} {o : Nat} (ho : o < 9) : ∀ k, k ≤ o → rc c q ys ms k (18 + o) = q (18 + o) := by
  intro k
  induction k with
  | zero => intro _; rfl
  | succ k ih =>
    intro hk
    have h := ih (by omega)
    unfold rc
    split
    · rw [upd_ne (by omega), upd_ne (by omega), upd_ne (by omega)]; exact h
    · exact h
theorem sc_pw {o i : Nat} (h : pw 23 o i = true) : scC o i = true := by
  have := of_decide_eq_true h
  unfold scC scr
  rw [Bool.and_eq_true]
  refine ⟨decide_eq_true (by omega), decide_eq_true ?_⟩
  rcases this with h | h | ⟨h, -⟩ | h
  · exact Or.inl h
  · exact Or.inr (Or.inl h)
  · exact Or.inr (Or.inr (Or.inl (by omega)))
  · exact Or.inr (Or.inr (Or.inl (by omega)))
def ctV (c : MC) (r : Nat → Int32) (f : Nat) (m : Int32) (o : Nat) : Bool := c.2.2.2.1 (vv (r o) (r f) (r (9 + o)) 1 (wd c.2.2.2.2.1 c.2.2.2.2.2 (r 46).toNatClampNeg) (r 46) (nI o) (nI f) m)
def byV (c : MC) (r : Nat → Int32) (f o : Nat) : Bool := !zb (r 45) o && zb (sg (nI c.1) c.2.2.1 o) f
theorem bc_bit : ∀ f, f < 9 → bc (zshl 1 (nI f)) = 1 := by decide
theorem zb_self {e : Int32} {S : Nat → Int32} {f : Nat} (hf : f < 9) : zb (sg e S f) f = false := by
  unfold sg
  rw [zb_and, zb_not (by omega), zb_one f (by omega) f (by omega)]
  simp
theorem cb_one {c : MC} {q : Nat → Int32} {f o : Nat} {k : Nat} (h9 : c.1 ≤ 9) (hf : f < c.1) (ho : o < c.1) (hk : k = 0 ∨ k = 1) {ms : Int32} (hms : ms = if k = 1 then zshl 1 (nI f) else 0) : cb c (rc c q (zshl 1 (nI f)) ms o) (zshl 1 (nI f)) ms o = (byV c q f o && (decide (q (18 + o) = -1) && ctV c q f (nI k) o)) := by
  have e : ∀ i, i < 18 ∨ 45 ≤ i → rc c q (zshl 1 (nI f)) ms o i = q i := fun i h => rc_hi h o (by omega)
  unfold cb cz
  rw [e 45 (by omega), e 46 (by omega), rc_18 (by omega) o (Nat.le_refl o)]
  have hbk : b2i (zb ms f) = nI k := by
    rw [hms]
    rcases hk with rfl | rfl
    · rw [if_neg (by decide), zb_0]; rfl
    · rw [if_pos rfl, zb_one f (by omega) f (by omega), decide_eq_true rfl]; rfl
  generalize hp : ct c.2.2.2.1 (wd c.2.2.2.2.1 c.2.2.2.2.2 (q 46).toNatClampNeg) (rc c q (zshl 1 (nI f)) ms o) (sg (nI c.1) c.2.2.1 o &&& zshl 1 (nI f)) ms o = p
  have hpz : ∀ j, j < c.1 → p j = true → j = f ∧ zb (sg (nI c.1) c.2.2.1 o) f = true := fun j hj h => by
    rw [← hp] at h
    unfold ct at h
    rw [Bool.and_eq_true, zb_and, Bool.and_eq_true, zb_one f (by omega) j (by omega)] at h
    have := of_decide_eq_true h.1.2
    subst this
    exact ⟨rfl, h.1.1⟩
  have hpf : p f = (zb (sg (nI c.1) c.2.2.1 o) f && ctV c q f (nI k) o) := by
    rw [← hp]
    unfold ct
    rw [zb_and, zb_one f (by omega) f (by omega), decide_eq_true rfl, Bool.and_true]
    cases hs : zb (sg (nI c.1) c.2.2.1 o) f
    · rfl
    · rw [Bool.true_and, Bool.true_and, zb_andbit _ (by omega), hs, if_pos rfl, bc_bit f (by omega), hbk, e o (by omega), e f (by omega), e (9 + o) (by omega), e 46 (by omega)]
      rfl
  have hff : decide (ff p c.1 0 = -1) = !(zb (sg (nI c.1) c.2.2.1 o) f && ctV c q f (nI k) o) := by
    rw [← hpf]
    rcases ff_cases (p := p) c.1 0 with ⟨h1, h2⟩ | ⟨j, -, h2, h3, h4, -⟩
    · rw [h1, h2 f (by omega) (by omega)]; rfl
    · obtain ⟨rfl, -⟩ := hpz j (by omega) h3
      rw [h3, h4, decide_eq_false (nI_m1 (by omega))]; rfl
  rw [hff, Bool.not_not]
  unfold byV
  by_cases hof : o = f
  · subst hof
    rw [zb_self (by omega), zb_or, zb_one o (by omega) o (by omega), decide_eq_true rfl]
    simp
  · rw [zb_or, zb_one f (by omega) o (by omega), decide_eq_false hof, Bool.or_false]
    cases zb (q 45) o <;> cases zb (sg (nI c.1) c.2.2.1 o) f <;> cases decide (q (18 + o) = -1) <;> cases ctV c q f (nI k) o <;> rfl
theorem bs_same {p p' : Nat → Bool} : ∀ n, (∀ f, f < n → p f = p' f) → bs p n = bs p' n := by
  intro n
  induction n with
  | zero => intro _; rfl
  | succ n ih => intro h; rw [bs_1, bs_1, ih (fun f hf => h f (by omega)), h n (by omega)]
theorem c_seersOf {d : Nat} {σ : zS} {c : MC} {r : Nat → Int32} {f : Nat} (hc : CW 14 c σ) (h45 : σ 17 5 = r 45) (hf : f < c.1) (Q : Int32 → zS → Prop) : ZC (d + 4) 76 [.ref 14, .int (zshl 1 (nI f))] σ Q = Q (bs (byV c r f) c.1) σ := by
  have h9 := hc.2.1
  refine s_of (fun Q hq => k_76_0 ?_) Q
  refine z_for (F := c.1) (P := fun k => Z (d + 3) 76 Q 4 [.ref 14, .int (zshl 1 (nI f)), .int (bs (fun o => zb (sg (nI c.1) c.2.2.1 o) f) k), .int (nI k)] [] σ) (fun k hk ih => ?_) ?_
  · refine k_76_4 ?_
    rw [hc.1, if_pos (nI_lt hk (by omega)), c_sight14 (by omega), hc.1, sg_congr (e := nI c.1) (hc.2.2.1 k hk).2, zb_andbit _ (by omega), s_bit, show nI k + (1 : Int32) = nI (k + 1) from nI_add k 1]
    rw [bs_1] at ih
    cases hz : zb (sg (nI c.1) c.2.2.1 k) f
    · rw [hz] at ih
      rw [if_neg (show ¬ (false = true) by decide), if_pos rfl, i_or0]
      exact ih
    · rw [hz] at ih
      rw [if_pos rfl, if_neg (fun q => by
        have := zb_one f (by omega) f (by omega)
        rw [q, zb_0] at this
        simp at this)]
      exact ih
  · refine k_76_4 ?_
    rw [hc.1, if_neg (nI_nlt (Nat.le_refl _) (by omega)), h45]
    have e : bs (fun o => zb (sg (nI c.1) c.2.2.1 o) f) c.1 &&& (r 45 ^^^ (-1)) = bs (byV c r f) c.1 := zb_ext (fun g hg => by
      rw [zb_and, zb_bs (by omega) hg, zb_bs (by omega) hg, zb_not hg]
      unfold byV
      cases decide (g < c.1) <;> cases zb (sg (nI c.1) c.2.2.1 g) f <;> cases zb (r 45) g <;> rfl)
    rw [e]
    exact hq
theorem call_catchers {d e b : Nat} {σ : zS} (x y : Int32) (h : Inv b σ) (hb : b < 90000000) : Both (d + 6) 93 [.ref 0, .int x, .int y] (e + 226) 215 [.ref 214, .int x, .int y] b σ := by
  obtain ⟨c, l, t, ht, hc⟩ := h.ctx
  have h9 := hc.h9
  have hR3 : ∀ σ3, Fr tC σ σ3 → (zup σ3 214 12 0) 214 1 = nI c.1 := fun σ3 f3 => (fr12 (σ := σ3) 214 1 (by decide)).trans ((f3 214 1 (by decide)).trans hc.hR)
  have h215 : ∀ σ3, Fr tC σ σ3 → (zup σ3 214 12 0) 215 = σ 215 := fun σ3 f3 => (tR_215 fr12.rT).trans (tC_215 f3)
  rcases faceC x h9 with hx | ⟨f, hf, rfl⟩
  · refine both_q h (-1) none (fun Q hq => ?_) (fun σ3 f3 Q hq => ?_)
    · refine k_93_0 ?_
      rw [c_isFace0 hc.h14 hx, if_pos rfl]
      exact hq σ Fr.rf
    · refine k_215_0 ?_
      rw [r_isFace0 (hR3 σ3 f3) h9 hx, if_pos rfl]
      exact hq _ fr12
  rcases rng0 y 1 (n := 1) (by decide) rfl with hy | ⟨k, hk, rfl, y1, y2⟩
  · refine both_q h (-1) none (fun Q hq => ?_) (fun σ3 f3 Q hq => ?_)
    · refine k_93_0 ?_
      rw [c_isFace1 hc.h14 h9 hf, if_neg (by decide), s_isIn0 hy, if_pos rfl]
      exact hq σ Fr.rf
    · refine k_215_0 ?_
      rw [r_isFace1 (hR3 σ3 f3) h9 hf, if_neg (by decide), s_in0 hy, if_pos rfl]
      exact hq _ fr12
  have h45 : σ 17 5 = σ 215 45 := hc.hcm.2.2.2.1
  have w1 := hc.hWR.1
  cases haw : zb (σ 215 45) f
  · refine both_q h (bs (fun o => byV c (σ 215) f o && (decide (σ 215 (18 + o) = -1) && ctV c (σ 215) f (nI k) o)) c.1) (some (1, tv1 (bs (byV c (σ 215) f) c.1))) (fun Q hq => ?_) (fun σ3 f3 Q hq => ?_)
    · refine k_93_0 ?_
      rw [c_isFace1 hc.h14 h9 hf, if_neg (by decide), s_isIn, if_neg y1, if_neg y2, if_neg (by decide), s_hasN _ (by omega), h45, haw, if_pos (show b2i false = 0 from rfl)]
      refine c_take2 hc Fr.rf (fun σ1 f1 p1 => ?_)
      obtain ⟨p2, p3, p4, p5, p6⟩ := p1
      -- the class catches from this yawn alone
      have fin : ∀ msv : Int32, msv = (if k = 1 then zshl 1 (nI f) else 0) → ZC (d + 5) 79 [.ref 23] (zup (zup σ1 23 4 (zshl 1 (nI f))) 23 5 msv) (fun _ s13 => ZC (d + 5) 131 [.int (nI f)] s13 (fun v16 s15 => ZC (d + 5) 76 [.ref 14, .int v16] s15 (fun v18 s17 => ZC (d + 5) 138 [.ref 0, .int v18] s17 (fun _ s19 => Q (s19 23 6) s19)))) := fun msv hm => by
        have f2 : Fr (pw 23) σ1 (zup (zup σ1 23 4 (zshl 1 (nI f))) 23 5 msv) := Fr.tr (Fr.up (by decide)) (Fr.up (by decide))
        have g2 : ∀ o i, o ≠ 23 → (zup (zup σ1 23 4 (zshl 1 (nI f))) 23 5 msv) o i = σ1 o i := fun o i q => by
          simp only [zup_eq, zput_app]
          rw [if_neg q, if_neg q]
        have hRL : RL l (zup (zup σ1 23 4 (zshl 1 (nI f))) 23 5 msv) := ⟨(g2 3 2 (by decide)).trans p3.1, fun i hi => (g2 5 i (by decide)).trans (p3.2.1 i hi), p3.2.2.1, p3.2.2.2⟩
        refine c_catchAll23 (t := t) (CW.fr (Or.inr rfl) p4 f2) (by rw [p2]; exact c_holds hRL _) (by rw [p2]; exact rvl_RVC l) (CM.ag p5 (fun o i q1 q2 => g2 o i (by omega))) w1 (by omega) (fun σ5 f5 c5 y5 m5 k5 l5 => ?_)
        have f15 : Fr scC σ σ5 := Fr.tr f1 (fr_scC (Fr.tr f2 f5) (fun o i q => sc_pw q))
        have hc5 := hc.fr (FrCT f15.cT)
        rw [s_bit, c_seersOf hc5.2.2.1 (show σ5 17 5 = σ 215 45 from (f15 17 5 (by decide)).trans h45) hf]
        refine c_tell1 (fun σ6 f6 t6 => ?_)
        rw [show σ6 23 6 = σ5 23 6 from f6 23 6 (by decide), k5]
        have ev : bs (fun o => cb c (rc c (σ 215) ((zup (zup σ1 23 4 (zshl 1 (nI f))) 23 5 msv) 23 4) ((zup (zup σ1 23 4 (zshl 1 (nI f))) 23 5 msv) 23 5) o) ((zup (zup σ1 23 4 (zshl 1 (nI f))) 23 5 msv) 23 4) ((zup (zup σ1 23 4 (zshl 1 (nI f))) 23 5 msv) 23 5) o) c.1 = bs (fun o => byV c (σ 215) f o && (decide (σ 215 (18 + o) = -1) && ctV c (σ 215) f (nI k) o)) c.1 := bs_same c.1 (fun o ho => cb_one h9 hf ho (by omega) hm)
        rw [ev]
        exact hq σ6 ⟨by decide, Fr.tr f15.cT f6.sTC, t6⟩
      rw [s_bit, s_bit]
      have hk01 : k = 0 ∨ k = 1 := by omega
      rcases hk01 with rfl | rfl
      · rw [if_neg (show ¬ (nI 0 = 1) by decide)]
        exact fin 0 rfl
      · rw [if_pos (show nI 1 = 1 from rfl)]
        exact fin (zshl 1 (nI f)) rfl
    · refine k_215_0 ?_
      have e215 := h215 σ3 f3
      rw [r_isFace1 (hR3 σ3 f3) h9 hf, if_neg (by decide), s_in, if_neg y1, if_neg y2, if_neg (by decide), s_hasR _ (by omega), e215, haw, if_pos (show b2i false = 0 from rfl)]
      have hc3 := (hc.fr (FrCT f3)).fr (FrR fr12)
      have hck : CK (e + 225) 215 c.2.2.2.1 c.2.2.2.2.1 c.2.2.2.2.2 (zup σ3 214 12 0) := by
        have := r_catches215 hc3.2.2.2.2.1 hc3.2.2.2.2.2.1 hc3.2.2.1.2.2.2.2.1 (e + 1)
        rw [← hc3.1] at this
        rw [hc3.2.2.2.2.2.2.1] at this
        exact this
      have fG : ∀ {σa σb : zS}, Fr pG σa σb → Fr (pR 215) σa σb := fun h => Fr.mono h (fun o i q => by
        unfold pR at q
        unfold pG
        rw [Bool.or_eq_false_iff] at q
        rw [Bool.and_eq_false_iff] at q ⊢
        rcases q.2 with q | q
        · exact Or.inl q
        · refine Or.inr ?_
          rw [Bool.or_eq_false_iff] at q ⊢
          refine ⟨q.1, ?_⟩
          have := q.2
          rw [decide_eq_false_iff_not] at this ⊢
          omega)
      have hR0 := hR3 σ3 f3
      have q0 : ∀ σ4, RE (some (1, tv1 (bs (byV c (σ 215) f) c.1))) (zup σ3 214 12 0) σ4 → Q (bs (fun o => byV c (σ 215) f o && (decide (σ 215 (18 + o) = -1) && ctV c (σ 215) f (nI k) o)) c.1) σ4 := fun σ4 h4 => hq σ4 ⟨Fr.tr fr12.rT h4.1, h4.2⟩
      have h217 : (zup σ3 214 12 0) 217 = c.2.2.1 := hc3.2.2.2.2.2.2.2.1.2.2.1
      generalize (zup σ3 214 12 0) = σ0 at hck hR0 q0 e215 h217 ⊢
      have hloop := z_for (F := c.1) (P := fun j => ∀ σ4, Fr pG σ0 σ4 → Z (e + 225) 215 Q 49 [.ref 214, .int (nI f), .int (nI k), .int (bs (fun o => byV c (σ 215) f o && (decide (σ 215 (18 + o) = -1) && ctV c (σ 215) f (nI k) o)) j), .int (bs (byV c (σ 215) f) j), .int (nI j)] [] σ4) (fun j hj ih => ?_) ?_
      · exact hloop σ0 Fr.rf
      · intro σ4 f4
        have g215 : σ4 215 = σ 215 := (funext fun i => f4 215 i (by simp [pG])).trans e215
        have gR : σ4 214 1 = nI c.1 := (f4 214 1 (by decide)).trans hR0
        have g217 : σ4 217 = c.2.2.1 := (funext fun i => f4 217 i (by simp [pG])).trans h217
        refine k_215_49 ?_
        rw [gR, if_pos (nI_lt hj (by omega)), g215, s_hasR _ (by omega), show nI j + (1 : Int32) = nI (j + 1) from nI_add j 1]
        have ihj := ih
        rw [bs_1, bs_1] at ihj
        have ez : byV c (σ 215) f j = (!zb (σ 215 45) j && zb (sg (nI c.1) c.2.2.1 j) f) := rfl
        cases hz : zb (σ 215 45) j
        · rw [if_pos (show b2i false = 0 from rfl), r_sight (by omega), gR, g217, s_hasR _ (by omega)]
          rw [hz] at ez
          cases hs : zb (sg (nI c.1) c.2.2.1 j) f
          · rw [hs] at ez
            have ez' : byV c (σ 215) f j = false := ez
            rw [if_pos (show b2i false = 0 from rfl)]
            rw [ez', Bool.false_and, if_neg (by decide), if_neg (by decide)] at ihj
            exact ihj σ4 f4
          · rw [hs] at ez
            have ez' : byV c (σ 215) f j = true := ez
            rw [if_neg (show ¬ b2i true = 0 by decide), show (18 : Int32) + nI j = nI (18 + j) from nI_add 18 j, if_pos (zin_nI (by omega) (by decide)), zcl (by omega), g215]
            rw [ez', Bool.true_and, if_pos rfl] at ihj
            by_cases hd : σ 215 (18 + j) = -1
            · rw [if_pos hd]
              rw [decide_eq_true hd, Bool.true_and] at ihj
              refine hck σ4 (fG f4) j f (by omega) (by omega) 1 (nI k) t (by rw [g215]; exact w1) (by omega) _ (fun σ5 f5 => ?_)
              have ev : c.2.2.2.1 (vv (σ4 215 j) (σ4 215 f) (σ4 215 (9 + j)) 1 (wd c.2.2.2.2.1 c.2.2.2.2.2 t) (nI t) (nI j) (nI f) (nI k)) = ctV c (σ 215) f (nI k) j := by
                unfold ctV
                rw [g215, w1, nI_clamp (by omega)]
              rw [ev]
              cases hv : ctV c (σ 215) f (nI k) j
              · rw [hv] at ihj
                rw [if_pos (show b2i false = 0 from rfl)]
                rw [if_neg (by decide)] at ihj
                exact ihj σ5 (Fr.tr f4 f5)
              · rw [hv] at ihj
                rw [if_neg (show ¬ b2i true = 0 by decide)]
                rw [if_pos rfl] at ihj
                exact ihj σ5 (Fr.tr f4 f5)
            · rw [if_neg hd]
              rw [decide_eq_false hd, Bool.false_and, if_neg (by decide)] at ihj
              exact ihj σ4 f4
        · rw [hz] at ez
          have ez' : byV c (σ 215) f j = false := ez
          rw [if_neg (show ¬ b2i true = 0 by decide)]
          rw [ez', Bool.false_and, if_neg (by decide), if_neg (by decide)] at ihj
          exact ihj σ4 f4
      · intro σ4 f4
        refine k_215_49 ?_
        rw [show σ4 214 1 = nI c.1 from (f4 214 1 (by decide)).trans hR0, if_neg (nI_nlt (Nat.le_refl _) (by omega))]
        refine r_tell1 (fun σ5 f5 t5 => q0 σ5 ⟨Fr.tr (Fr.mono f4 (fun o i q => ?_)) f5.sTR, t5⟩)
        unfold tR scrT scr at q
        unfold pG
        cases h1 : decide (o = 214)
        · rfl
        · have := of_decide_eq_true h1
          subst this
          rw [Bool.true_and]
          rw [show decide (214 ≤ 214) = true from rfl, Bool.true_and, Bool.or_eq_false_iff, decide_eq_false_iff_not] at q
          rw [Bool.or_eq_false_iff, decide_eq_false_iff_not, decide_eq_false_iff_not]
          omega
  · refine both_q h (-2) none (fun Q hq => ?_) (fun σ3 f3 Q hq => ?_)
    · refine k_93_0 ?_
      rw [c_isFace1 hc.h14 h9 hf, if_neg (by decide), s_isIn, if_neg y1, if_neg y2, if_neg (by decide), s_hasN _ (by omega), h45, haw, if_neg (by decide)]
      exact hq σ Fr.rf
    · refine k_215_0 ?_
      rw [r_isFace1 (hR3 σ3 f3) h9 hf, if_neg (by decide), s_in, if_neg y1, if_neg y2, if_neg (by decide), s_hasR _ (by omega), h215 σ3 f3, haw, if_neg (by decide)]
      exact hq _ fr12
