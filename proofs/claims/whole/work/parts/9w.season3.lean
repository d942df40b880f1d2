/-! season: the reference, and both -/
theorem r_seasonLoop {e n : Nat} {x : Int32} {σ σ3 : zS} {c : MC} {l : List Int32} {t : Nat} (hc : Ctx c l t σ) (f3 : Fr tC σ σ3) (hn : n ≤ 20) (ht : t + 300 < 100000000) {Q : Int32 → zS → Prop}
    (hq : ∀ σ', Fr tR σ3 σ' → TLr 4 (ssT (ssR c (σ 214 4) (σ 215) x n) c.1) σ' → Q (nI (ssR c (σ 214 4) (σ 215) x n).2.1) σ') : ∀ σ1 w8, Fr scR σ3 σ1 → (∀ f, f < 9 → σ1 227 f = 0) → Z (e + 227) 269 Q 55 [.ref 214, .int x, .int (nI n), .int x, .int 0, .int (-1), .int (-1), .int 0, w8] [] σ1 := by
  have h9 := hc.h9
  have gR : ∀ {σ5}, Fr scR σ3 σ5 → σ5 214 1 = nI c.1 := fun f => (tR_1 f.rT).trans ((tC_1 f3).trans hc.hR)
  have hloop := z_for (F := n) (P := fun k => ∀ σ1 w8, Fr scR σ3 σ1 → (∀ f, f < 9 → σ1 227 f = nI ((ssR c (σ 214 4) (σ 215) x k).2.2.2.2 f)) → Z (e + 227) 269 Q 55 [.ref 214, .int x, .int (nI n), .int (ssR c (σ 214 4) (σ 215) x k).1, .int (nI (ssR c (σ 214 4) (σ 215) x k).2.1), .int (ssR c (σ 214 4) (σ 215) x k).2.2.1, .int (ssR c (σ 214 4) (σ 215) x k).2.2.2.1, .int (nI k), w8] [] σ1) (fun k hk ih => ?_) ?_
  · exact fun σ1 w8 f1 e1 => hloop σ1 w8 f1 e1
  · intro σ1 w8 f1 e1
    rw [ssR_1] at ih
    obtain ⟨b1, b2⟩ := ssR_le (c := c) (j := σ 214 4) (r0 := σ 215) (x := x) k
    generalize hS : ssR c (σ 214 4) (σ 215) x k = s at ih e1 b1 b2
    refine k_269_55 ?_
    rw [if_pos (nI_lt hk (by omega))]
    refine r_begin2 (d := e + 225) hc f3 f1.rT (fun σ5 f5' f5 p5 e7 e4 e5 => ?_)
    have hreq : REq (σ5 226) (σ 215) := fun i hi => e5 i (by omega)
    have hrow := z_for (F := c.1) (P := fun g => ∀ σ6, Fr (fun o _ => decide (o = 226)) σ5 σ6 → PF 226 c l t σ6 → σ6 226 = rwS s.1 (σ5 226) g → Z (e + 227) 269 Q 68 [.ref 214, .int x, .int (nI n), .int (sdN s.1 g), .int (nI s.2.1), .int s.2.2.1, .int s.2.2.2.1, .int (nI k), .int (nI g)] [] σ6) (fun g hg ih2 => ?_) ?_
    · exact hrow σ5 Fr.rf p5 rfl
    · intro σ6 f6 p6 e6
      refine k_269_68 ?_
      obtain ⟨m, hm, em⟩ := tv10_rng (sdN s.1 (g + 1))
      rw [show σ6 214 1 = nI c.1 from (f6 214 1 (by decide)).trans (gR (Fr.tr f1 f5)), if_pos (nI_lt hg (by omega)), if_pos (zin_nI (by omega) (by decide)), zcl (by omega), show nI g + (1 : Int32) = nI (g + 1) from nI_add g 1, show zrem (zushr (sdN s.1 g * 1103515245 + 12345) 16) 10 = nI m from em, zup_eq, e6]
      have ew : upd (rwS s.1 (σ5 226) g) g (nI m) = rwS s.1 (σ5 226) (g + 1) := by rw [rwS_1, em]
      rw [ew]
      exact ih2 _ (Fr.tr f6 (Fr.put (fun i q => by simp at q))) (p6.set (rwS_WR h9 p5.2.2.2.2.2.2 (g + 1) hg)) e226
    · intro σ6 f6 p6 e6
      refine k_269_68 ?_
      rw [show σ6 214 1 = nI c.1 from (f6 214 1 (by decide)).trans (gR (Fr.tr f1 f5)), if_neg (nI_nlt (Nat.le_refl _) (by omega))]
      refine r_findStart (n := 300) (j := σ 214 4) p6 ((f6 214 7 (by decide)).trans e7) ((f6 214 4 (by decide)).trans e4) (by decide) ht (fun σ7 f7 s5 => ?_)
      have eF : sW c (so (nI c.1) c.2.2.1 (σ 214 4) c.1) 300 0 (σ6 226) 0 = ssF c (σ 214 4) (σ 215) s := by
        rw [e6]
        exact sW_cong h9 300 0 _ _ 0 (rwS_cong hreq c.1)
      rw [eF] at s5 ⊢
      have f17 : Fr scR σ3 σ7 := Fr.tr f1 (Fr.tr f5 (Fr.tr (Fr.s226 f6) f7.rXC))
      have e227 : ∀ f, σ7 227 f = σ1 227 f := fun f => (f7 227 f (by simp [pRS, pR])).trans ((f6 227 f (by simp)).trans (f5' 227 f (by simp)))
      have ek : nI k + (1 : Int32) = nI (k + 1) := nI_add k 1
      rw [ek]
      unfold ssN at ih
      by_cases hz : (ssF c (σ 214 4) (σ 215) s).1 = -1
      · rw [if_pos hz] at ih ⊢
        exact ih σ7 _ f17 (fun f hf => by rw [e227 f]; exact e1 f hf)
      · rw [if_neg hz] at ih ⊢
        obtain ⟨f, hf, ef⟩ := (sW_face (c := c) (J := so (nI c.1) c.2.2.1 (σ 214 4) c.1) h9 300 0 (rwS s.1 (σ 215) c.1) 0).resolve_left hz
        have ef' : (ssF c (σ 214 4) (σ 215) s).2.1 = nI f := ef
        have s6 := (s5.resolve_left hz).1
        rw [ef'] at s6 ih
        rw [nI_clamp (by omega)] at ih
        have bf := b2 f
        have z9 : zin (nI f) 9 = true := zin_nI (by omega) (by decide)
        have fin : ∀ w, Z (e + 227) 269 Q 55 [.ref 214, .int x, .int (nI n), .int (sdN s.1 c.1), .int (nI (s.2.1 + 1)), .int (if s.2.2.1 = -1 then (ssF c (σ 214 4) (σ 215) s).1 else mnI s.2.2.1 (ssF c (σ 214 4) (σ 215) s).1), .int (mxI s.2.2.2.1 (ssF c (σ 214 4) (σ 215) s).1), .int (nI (k + 1)), w] [] (zup σ7 227 f (nI (s.2.2.2.2 f + 1))) := fun w => by
          refine ih _ w (Fr.tr f17 (Fr.up rfl)) (fun g hg => ?_)
          show (zup σ7 227 f (nI (s.2.2.2.2 f + 1))) 227 g = nI (upN s.2.2.2.2 f (s.2.2.2.2 f + 1) g)
          rw [zup_eq, zput_app, if_pos rfl]
          by_cases q : g = f
          · rw [q, upd_eq, upN_eq]
          · rw [upd_ne q, upN_ne q, e227 g]; exact e1 g hg
        by_cases h5 : s.2.2.1 = -1
        · rw [if_pos h5] at fin
          rw [if_pos h5, s_mx, s6, if_pos z9, if_pos z9, zcl (by omega), e227 f, e1 f (by omega), nI_1, nI_1]
          exact fin _
        · rw [if_neg h5] at fin
          rw [if_neg h5, s_mn, s_mx, s6, if_pos z9, if_pos z9, zcl (by omega), e227 f, e1 f (by omega), nI_1, nI_1]
          exact fin _
  · intro σ1 w8 f1 e1
    obtain ⟨b1, b2⟩ := ssR_le (c := c) (j := σ 214 4) (r0 := σ 215) (x := x) n
    generalize hS : ssR c (σ 214 4) (σ 215) x n = s at hq e1 b1 b2
    refine k_269_55 ?_
    rw [if_neg (nI_nlt (Nat.le_refl _) (by omega))]
    refine z_for (F := c.1) (P := fun k => Z (e + 227) 269 Q 182 [.ref 214, .int x, .int (nI n), .int s.1, .int (nI s.2.1), .int s.2.2.1, .int s.2.2.2.1, .int (optI (mst s.2.2.2.2 k)), .int (nI k)] [] σ1) (fun k hk ih => ?_) ?_
    · refine k_269_182 ?_
      rw [gR f1, if_pos (nI_lt hk (by omega)), if_pos (zin_nI (by omega) (by decide)), zcl (by omega), e1 k (by omega), show nI k + (1 : Int32) = nI (k + 1) from nI_add k 1]
      have bk := b2 k
      unfold mst at ih
      cases hm : mst s.2.2.2.2 k with
      | none =>
        rw [hm] at ih
        dsimp only at ih
        rw [if_pos (show optI none = -1 from rfl)]
        by_cases hp : 0 < s.2.2.2.2 k
        · rw [if_pos hp] at ih
          rw [if_pos (show (0 : Int32) < nI (s.2.2.2.2 k) from nI_lt (a := 0) hp (by omega))]
          exact ih
        · rw [if_neg hp] at ih
          rw [if_neg (show ¬ (0 : Int32) < nI (s.2.2.2.2 k) from nI_nlt (a := 0) (by omega) (by decide))]
          exact ih
      | some m =>
        rw [hm] at ih
        dsimp only at ih
        obtain ⟨m1, -⟩ := mst_lt _ _ _ hm
        have bm := b2 m
        rw [if_neg (show ¬ optI (some m) = -1 from nI_m1 (by omega)), show optI (some m) = nI m from rfl, if_pos (zin_nI (by omega) (by decide)), zcl (by omega), e1 m (by omega)]
        by_cases hp : s.2.2.2.2 m < s.2.2.2.2 k
        · rw [if_pos hp] at ih
          rw [if_pos (nI_lt hp (by omega))]
          exact ih
        · rw [if_neg hp] at ih
          rw [if_neg (nI_nlt (by omega) (by omega))]
          exact ih
    · refine k_269_182 ?_
      rw [gR f1, if_neg (nI_nlt (Nat.le_refl _) (by omega))]
      unfold ssT at hq
      have tv : ∀ (a b c d : Int32) (σ' : zS), TLr 4 (upd (upd (upd (upd (fun _ => 0) 0 a) 1 b) 2 c) 3 d) σ' → TLr 4 (tv4 a b c d) σ' := fun a b c d σ' h => ⟨h.1, fun i hi => by
        rw [h.2 i hi]
        have : i = 0 ∨ i = 1 ∨ i = 2 ∨ i = 3 := by omega
        rcases this with rfl | rfl | rfl | rfl <;> rfl⟩
      refine r_tellN (TLr.zero _ (fun _ => 0)) (by decide) (fun σ2 f2 t2 => ?_)
      refine r_tellN t2 (by decide) (fun σ4 f4 t4 => ?_)
      refine r_tellN t4 (by decide) (fun σ5 f5 t5 => ?_)
      have f15 : Fr tR σ3 σ5 := Fr.tr f1.rT (Fr.tr fr11.sTR (Fr.tr f2.sTR (Fr.tr f4.sTR f5.sTR)))
      cases hm : mst s.2.2.2.2 c.1 with
      | none =>
        rw [hm] at hq t5
        rw [if_pos (show optI none = -1 from rfl)]
        exact r_tellN t5 (by decide) (fun σ6 f6 t6 => hq σ6 (Fr.tr f15 f6.sTR) (tv _ _ _ _ _ t6))
      | some m =>
        rw [hm] at hq t5
        obtain ⟨m1, -⟩ := mst_lt _ _ _ hm
        have e5 : σ5 227 m = nI (s.2.2.2.2 m) := ((Fr.tr fr11 (Fr.tr f2 (Fr.tr f4 f5))) 227 m (by simp [frTR])).trans (e1 m (by omega))
        rw [if_neg (show ¬ optI (some m) = -1 from nI_m1 (by omega)), show optI (some m) = nI m from rfl, if_pos (zin_nI (by omega) (by decide)), zcl (by omega), e5]
        exact r_tellN t5 (by decide) (fun σ6 f6 t6 => hq σ6 (Fr.tr f15 f6.sTR) (tv _ _ _ _ _ t6))
theorem call_season {d e b : Nat} {σ : zS} (x y : Int32) (h : Inv b σ) (hb : b < 90000000) : Both (d + 7) 126 [.ref 0, .int x, .int y] (e + 228) 269 [.ref 214, .int x, .int y] b σ := by
  obtain ⟨c, l, t, ht, hc⟩ := h.ctx
  have h9 := hc.h9
  rcases rngC y 1 20 (by decide) (by decide) with hy | ⟨n, hn1, hn, rfl⟩
  · have hy : y < (1 : Int32) ∨ (20 : Int32) < y := hy
    refine both_q h (-1) none (fun Q hq => ?_) (fun σ3 f3 Q hq => ?_)
    · refine k_126_0 ?_
      rw [s_isIn0 hy, if_pos rfl]
      exact hq σ Fr.rf
    · refine k_269_0 ?_
      rw [s_in0 hy, if_pos rfl]
      exact hq _ fr12
  · generalize hX : ssR c (σ 214 4) (σ 215) x n = X
    refine both_q h (nI X.2.1) (some (4, ssT X c.1)) (fun Q hq => ?_) (fun σ3 f3 Q hq => ?_)
    · refine k_126_0 ?_
      rw [show (Value.int 1) = .int (nI 1) from rfl, show (Value.int 20) = .int (nI 20) from rfl, s_isIn1 hn1 hn (by decide), if_neg (by decide)]
      refine s_fill0 (fun σ0 f0 z0 => ?_)
      exact c_seasonLoop hc hn (by omega) (fun σ' f' t' => by rw [hX] at t' ⊢; exact hq σ' ⟨by decide, f', t'⟩) σ0 _ (fr_scC f0 (fun o i q => by have := of_decide_eq_true q; subst this; exact sc_191 i)) (fun f hf => z0 f (by omega))
    · refine k_269_0 ?_
      rw [show (Value.int 1) = .int (nI 1) from rfl, show (Value.int 20) = .int (nI 20) from rfl, s_in1 hn1 hn (by decide), if_neg (by decide)]
      have hini := z_for (F := 9) (P := fun k => ∀ σ1 w8, Fr scR σ3 σ1 → (∀ f, f < k → σ1 227 f = 0) → Z (e + 227) 269 Q 31 [.ref 214, .int x, .int (nI n), .int x, .int 0, .int (-1), .int (-1), .int (nI k), w8] [] σ1) (fun k hk ih => ?_) ?_
      · exact hini _ _ fr12 (fun f hf => absurd hf (Nat.not_lt_zero f))
      · intro σ1 w8 f1 e1
        refine k_269_31 ?_
        rw [if_pos (show nI k < 9 from nI_lt (b := 9) hk (by decide)), if_pos (zin_nI (by omega) (by decide)), zcl (by omega), show nI k + (1 : Int32) = nI (k + 1) from nI_add k 1]
        refine ih _ _ (Fr.tr f1 (Fr.up rfl)) (fun f hf => ?_)
        rw [zup_eq, zput_app, if_pos rfl]
        by_cases q : f = k
        · rw [q, upd_eq]
        · rw [upd_ne q]; exact e1 f (by omega)
      · intro σ1 w8 f1 e1
        refine k_269_31 ?_
        rw [if_neg (show ¬ nI 9 < 9 by decide)]
        exact r_seasonLoop hc f3 hn (by omega) (fun σ' f' t' => by rw [hX] at t' ⊢; exact hq σ' ⟨f', t'⟩) σ1 _ f1 e1
