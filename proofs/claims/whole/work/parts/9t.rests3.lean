/-! rests: the reference, and both -/
theorem r_lateL {d : Nat} {σ : zS} (x : Int32) (Q : Int32 → zS → Prop) : ZC (d + 1) 249 [.int x] σ Q = Q (orL 1000000 x) σ := by
  rw [r_late]; rfl
theorem r_tell4 {e : Nat} {σ : zS} {a b c f : Int32} {K : Int32 → zS → Prop} (h1 : σ 230 0 = b) (h2 : σ 230 1 = c) (hq : ∀ σ', Fr frTR σ σ' → TLr 4 (tv4 a b c f) σ' → K 0 σ') : ZC (e + 1) 174 [.ref 214, .int a] (zup σ 214 11 0) (fun _ s7 => (ZC (e + 1) 174 [.ref 214, .int (s7 230 0)] s7 (fun _ s9 => (ZC (e + 1) 174 [.ref 214, .int (s9 230 1)] s9 (fun _ s11 => (ZC (e + 1) 174 [.ref 214, .int f] s11 K)))))) := by
  have k : ∀ {σ' : zS}, Fr frTR σ σ' → σ' 230 0 = b ∧ σ' 230 1 = c := fun g => ⟨(g 230 0 (by decide)).trans h1, (g 230 1 (by decide)).trans h2⟩
  refine r_tellN (TLr.zero _ (fun _ => 0)) (by decide) (fun σ1 f1 t1 => ?_)
  have g1 := Fr.tr fr11 f1
  rw [(k g1).1]
  refine r_tellN t1 (by decide) (fun σ2 f2 t2 => ?_)
  have g2 := Fr.tr g1 f2
  rw [(k g2).2]
  refine r_tellN t2 (by decide) (fun σ3 f3 t3 => ?_)
  refine r_tellN t3 (by decide) (fun σ4 f4 t4 => hq σ4 (Fr.tr (Fr.tr g2 f3) f4) ⟨t4.1, fun i hi => ?_⟩)
  have : i = 0 ∨ i = 1 ∨ i = 2 ∨ i = 3 := by omega
  rcases this with rfl | rfl | rfl | rfl
  · exact t4.2 0 (by omega)
  · exact t4.2 1 (by omega)
  · exact t4.2 2 (by omega)
  · exact t4.2 3 (by omega)
theorem pRS_230 {σ σ' : zS} (h : Fr pRS σ σ') (i : Nat) : σ' 230 i = σ 230 i := h 230 i (by simp [pRS, pR])
theorem r_restsEnd {e k s m st : Nat} {σ σ3 σ1 : zS} {c : MC} {l : List Int32} {t : Nat} (hc : Ctx c l t σ) (f3 : Fr tC σ σ3) (f1 : Fr scR σ3 σ1) (hs : s ≤ c.1) (hm : m ≤ c.1) (e0 : σ1 230 0 = ixN s) (e1 : σ1 230 1 = ixN m) (hst : st < 1000) (ht : t + 300 < 100000000) {Q : Int32 → zS → Prop} (hq : ∀ σ', Fr tR σ3 σ' → TLr 4 (rsT c (σ 214 4) (σ 215) (k, s, m, st)) σ' → Q (nI k) σ') : ZC (e + 228) 255 [.ref 214] σ1 (fun v6 s5 => (if nI st = 2 then (ZC (e + 228) 174 [.ref 214, .int 1] (zup s5 214 11 0) (fun _ s7 => (ZC (e + 228) 174 [.ref 214, .int (s7 230 0)] s7 (fun _ s9 => (ZC (e + 228) 174 [.ref 214, .int (s9 230 1)] s9 (fun _ s11 => (ZC (e + 228) 174 [.ref 214, .int v6] s11 (fun _ s13 => Q (nI k) s13)))))))) else (ZC (e + 228) 174 [.ref 214, .int 0] (zup s5 214 11 0) (fun _ s15 => (ZC (e + 228) 174 [.ref 214, .int (s15 230 0)] s15 (fun _ s17 => (ZC (e + 228) 174 [.ref 214, .int (s17 230 1)] s17 (fun _ s19 => (ZC (e + 228) 174 [.ref 214, .int v6] s19 (fun _ s21 => Q (nI k) s21)))))))))) := by
  refine r_startBy hc f3 f1.rT hs hm e0 e1 ht (fun σ5 f5 => ?_)
  have k0 := (pRS_230 f5 0).trans e0
  have k1 := (pRS_230 f5 1).trans e1
  by_cases h2 : st = 2
  · rw [if_pos (show nI st = 2 by rw [h2]; rfl)]
    refine r_tell4 (K := fun _ s => Q (nI k) s) k0 k1 (fun σ6 f6 t6 => hq σ6 (Fr.tr (Fr.tr f1 f5.rXC).rT f6.sTR) ?_)
    unfold rsT
    rw [if_pos h2]; exact t6
  · rw [if_neg (show ¬ nI st = 2 from fun q => h2 ((nI_eq (a := st) (b := 2) (by omega) (by decide)).mp q))]
    refine r_tell4 (K := fun _ s => Q (nI k) s) k0 k1 (fun σ6 f6 t6 => hq σ6 (Fr.tr (Fr.tr f1 f5.rXC).rT f6.sTR) ?_)
    unfold rsT
    rw [if_neg h2]; exact t6
theorem up230 {σ : zS} {i : Nat} {v : Int32} : Fr scR σ (zup σ 230 i v) := Fr.up rfl
theorem r_restsLoop {e M : Nat} {σ σ3 : zS} {c : MC} {l : List Int32} {t : Nat} (hc : Ctx c l t σ) (f3 : Fr tC σ σ3) (hM : M ≤ 20) (ht : t + 300 < 100000000) {Q : Int32 → zS → Prop} : ∀ n k s m st σ1, k + n = M → s ≤ c.1 → m ≤ c.1 → st ≤ k → Fr scR σ3 σ1 → σ1 230 0 = ixN s → σ1 230 1 = ixN m → (∀ σ', Fr tR σ3 σ' → TLr 4 (rsT c (σ 214 4) (σ 215) (rsE c (σ 214 4) (σ 215) n k s m st)) σ' → Q (nI (rsE c (σ 214 4) (σ 215) n k s m st).1) σ') → ∀ w4 w5 w6 w7 w8 w9, Z (e + 228) 256 Q 35 [.ref 214, .int (nI M), .int (nI k), .int (nI st), w4, w5, w6, w7, w8, w9] [] σ1 := by
  have h9 := hc.h9
  intro n
  induction n with
  | zero =>
    intro k s m st σ1 hk hs hm hst f1 e0 e1 hq w4 w5 w6 w7 w8 w9
    refine k_256_35 ?_
    rw [if_neg (nI_nlt (by omega) (by omega))]
    exact r_restsEnd hc f3 f1 hs hm e0 e1 (by omega) ht hq
  | succ n ih =>
    intro k s m st σ1 hk hs hm hst f1 e0 e1 hq w4 w5 w6 w7 w8 w9
    rw [rsE_1] at hq
    refine k_256_35 ?_
    rw [if_pos (nI_lt (by omega) (by omega))]
    by_cases h2 : st < 2
    · rw [if_pos h2] at hq
      have ek : zrem (nI k) 2 = nI (k % 2) := zrem_nI (b := 2) (by omega) (by decide) (by decide)
      have hkp : k % 2 < 2 := Nat.mod_lt _ (by decide)
      rw [if_pos (show nI st < 2 from nI_lt (b := 2) h2 (by decide)), ek, if_pos (zin_nI (by omega) (by decide)), zcl (by omega)]
      refine r_startBy hc f3 f1.rT hs hm e0 e1 ht (fun σ2 f2 => ?_)
      rw [r_lateL]
      have f12 := Fr.tr f1 f2.rXC
      have k0 := (pRS_230 f2 0).trans e0
      have k1 := (pRS_230 f2 1).trans e1
      have gR : ∀ {σ5}, Fr scR σ3 σ5 → σ5 214 1 = nI c.1 := fun f => (tR_1 f.rT).trans ((tC_1 f3).trans hc.hR)
      have ek1 : nI k + (1 : Int32) = nI (k + 1) := nI_add k 1
      have es1 : nI st + (1 : Int32) = nI (st + 1) := nI_add st 1
      by_cases hp : k % 2 = 0
      · rw [if_pos hp] at hq
        rw [hp, e0]
        have hok := cho_ok (c := c) (j := σ 214 4) (r := σ 215) (p := 0) hs hm
        have hch := (hok (c.1 + 1) (Nat.le_refl _)).1
        have hin := z_for (F := c.1 + 1) (P := fun i => ∀ σ5 w9, Fr scR σ3 σ5 → σ5 230 1 = ixN m → Z (e + 228) 256 Q 75 [.ref 214, .int (nI M), .int (nI k), .int (nI st), .int (nI 0), .int (ixN s), .int (ixN (cho c (σ 214 4) (σ 215) 0 s m i).1), .int (orL 1000000 (cho c (σ 214 4) (σ 215) 0 s m i).2), .int (ixN i), w9] [] σ5) (fun i hi ih2 => ?_) ?_
        · exact hin σ2 _ f12 k1
        · intro σ5 w9 f5 q1
          refine k_256_75 ?_
          rw [gR f5, if_pos ((ixN_lt (by omega) (by omega)).mpr (by omega)), if_pos (show zin (nI 0) 2 = true by decide), ixN_1, show (nI 0).toNatClampNeg = 0 from rfl]
          refine r_startBy (s := i) (m := m) hc f3 (Fr.tr f5 up230).rT (by omega) hm (by rw [zup_eq, zput_app, if_pos rfl, upd_eq]) (by rw [zup_eq, zput_app, if_pos rfl, upd_ne (by decide)]; exact q1) ht (fun σ6 f6 => ?_)
          rw [r_lateL, if_pos (show nI 0 = 0 from rfl)]
          have f56 := Fr.tr f5 (Fr.tr up230 f6.rXC)
          have q1' : σ6 230 1 = ixN m := (pRS_230 f6 1).trans (by rw [zup_eq, zput_app, if_pos rfl, upd_ne (by decide)]; exact q1)
          rw [cho_1] at ih2
          simp only [↓reduceIte] at ih2
          have hv := (hok i (by omega)).2
          by_cases hlt : orL 300 (stV c (σ 214 4) (σ 215) i m) < orL 300 (cho c (σ 214 4) (σ 215) 0 s m i).2
          · rw [if_pos hlt] at ih2
            rw [if_pos (by rw [orL_lt stV_300 hv]; exact hlt)]
            exact ih2 σ6 _ f56 q1'
          · rw [if_neg hlt] at ih2
            rw [if_neg (by rw [orL_lt stV_300 hv]; exact hlt)]
            exact ih2 σ6 _ f56 q1'
        · intro σ5 w9 f5 q1
          refine k_256_75 ?_
          rw [gR f5, if_neg (fun q => by have := (ixN_lt (by omega) (by omega)).mp q; omega), if_pos (show zin (nI 0) 2 = true by decide), show (nI 0).toNatClampNeg = 0 from rfl, ek1, es1]
          have z0 : (zup σ5 230 0 (ixN (cho c (σ 214 4) (σ 215) 0 s m (c.1 + 1)).1)) 230 0 = ixN (cho c (σ 214 4) (σ 215) 0 s m (c.1 + 1)).1 := by rw [zup_eq, zput_app, if_pos rfl, upd_eq]
          have z1 : (zup σ5 230 0 (ixN (cho c (σ 214 4) (σ 215) 0 s m (c.1 + 1)).1)) 230 1 = ixN m := by rw [zup_eq, zput_app, if_pos rfl, upd_ne (by decide)]; exact q1
          by_cases he : (cho c (σ 214 4) (σ 215) 0 s m (c.1 + 1)).1 = s
          · rw [if_pos he] at hq
            rw [if_pos (by rw [he])]
            exact ih (k + 1) _ m (st + 1) _ (by omega) hch hm (by omega) (Fr.tr f5 up230) z0 z1 hq _ _ _ _ _ _
          · rw [if_neg he] at hq
            rw [if_neg (fun q => he ((ixN_eq (by omega) (by omega)).mp q))]
            exact ih (k + 1) _ m 0 _ (by omega) hch hm (by omega) (Fr.tr f5 up230) z0 z1 hq _ _ _ _ _ _
      · have hp1 : k % 2 = 1 := by omega
        rw [if_neg hp] at hq
        rw [hp1, e1]
        have hok := cho_ok (c := c) (j := σ 214 4) (r := σ 215) (p := 1) hs hm
        have hch := (hok (c.1 + 1) (Nat.le_refl _)).1
        have n10 : ¬ ((1 : Nat) = 0) := by decide
        have hin := z_for (F := c.1 + 1) (P := fun i => ∀ σ5 w9, Fr scR σ3 σ5 → σ5 230 0 = ixN s → Z (e + 228) 256 Q 75 [.ref 214, .int (nI M), .int (nI k), .int (nI st), .int (nI 1), .int (ixN m), .int (ixN (cho c (σ 214 4) (σ 215) 1 s m i).1), .int (orL 1000000 (cho c (σ 214 4) (σ 215) 1 s m i).2), .int (ixN i), w9] [] σ5) (fun i hi ih2 => ?_) ?_
        · exact hin σ2 _ f12 k0
        · intro σ5 w9 f5 q1
          refine k_256_75 ?_
          rw [gR f5, if_pos ((ixN_lt (by omega) (by omega)).mpr (by omega)), if_pos (show zin (nI 1) 2 = true by decide), ixN_1, show (nI 1).toNatClampNeg = 1 from rfl]
          refine r_startBy (s := s) (m := i) hc f3 (Fr.tr f5 up230).rT hs (by omega) (by rw [zup_eq, zput_app, if_pos rfl, upd_ne (by decide)]; exact q1) (by rw [zup_eq, zput_app, if_pos rfl, upd_eq]) ht (fun σ6 f6 => ?_)
          rw [r_lateL, if_neg (show ¬ nI 1 = 0 by decide)]
          have f56 := Fr.tr f5 (Fr.tr up230 f6.rXC)
          have q1' : σ6 230 0 = ixN s := (pRS_230 f6 0).trans (by rw [zup_eq, zput_app, if_pos rfl, upd_ne (by decide)]; exact q1)
          rw [cho_1] at ih2
          simp only [n10, ↓reduceIte] at ih2
          have hv := (hok i (by omega)).2
          by_cases hlt : orL 300 (cho c (σ 214 4) (σ 215) 1 s m i).2 < orL 300 (stV c (σ 214 4) (σ 215) s i)
          · rw [if_pos hlt] at ih2
            rw [if_pos (by rw [orL_lt hv stV_300]; exact hlt)]
            exact ih2 σ6 _ f56 q1'
          · rw [if_neg hlt] at ih2
            rw [if_neg (by rw [orL_lt hv stV_300]; exact hlt)]
            exact ih2 σ6 _ f56 q1'
        · intro σ5 w9 f5 q1
          refine k_256_75 ?_
          rw [gR f5, if_neg (fun q => by have := (ixN_lt (by omega) (by omega)).mp q; omega), if_pos (show zin (nI 1) 2 = true by decide), show (nI 1).toNatClampNeg = 1 from rfl, ek1, es1]
          have z1 : (zup σ5 230 1 (ixN (cho c (σ 214 4) (σ 215) 1 s m (c.1 + 1)).1)) 230 1 = ixN (cho c (σ 214 4) (σ 215) 1 s m (c.1 + 1)).1 := by rw [zup_eq, zput_app, if_pos rfl, upd_eq]
          have z0 : (zup σ5 230 1 (ixN (cho c (σ 214 4) (σ 215) 1 s m (c.1 + 1)).1)) 230 0 = ixN s := by rw [zup_eq, zput_app, if_pos rfl, upd_ne (by decide)]; exact q1
          by_cases he : (cho c (σ 214 4) (σ 215) 1 s m (c.1 + 1)).1 = m
          · rw [if_pos he] at hq
            rw [if_pos (by rw [he])]
            exact ih (k + 1) s _ (st + 1) _ (by omega) hs hch (by omega) (Fr.tr f5 up230) z0 z1 hq _ _ _ _ _ _
          · rw [if_neg he] at hq
            rw [if_neg (fun q => he ((ixN_eq (by omega) (by omega)).mp q))]
            exact ih (k + 1) s _ 0 _ (by omega) hs hch (by omega) (Fr.tr f5 up230) z0 z1 hq _ _ _ _ _ _
    · rw [if_neg h2] at hq
      rw [if_neg (show ¬ nI st < 2 from nI_nlt (b := 2) (by omega) (by omega))]
      exact r_restsEnd hc f3 f1 hs hm e0 e1 (by omega) ht hq
theorem call_rests {d e b : Nat} {σ : zS} (x : Int32) (h : Inv b σ) (hb : b < 90000000) : Both (d + 8) 116 [.ref 0, .int x] (e + 229) 256 [.ref 214, .int x] b σ := by
  obtain ⟨c, l, t, ht, hc⟩ := h.ctx
  have h9 := hc.h9
  rcases rngC x 0 20 (by decide) (by decide) with hx | ⟨M, -, hM, rfl⟩
  · have hx : x < (0 : Int32) ∨ (20 : Int32) < x := hx
    refine both_q h (-1) none (fun Q hq => ?_) (fun σ3 f3 Q hq => ?_)
    · refine k_116_0 ?_
      rw [s_isIn0 hx, if_pos rfl]
      exact hq σ Fr.rf
    · refine k_256_0 ?_
      rw [s_in0 hx, if_pos rfl]
      exact hq _ fr12
  · generalize hX : rsE c (σ 214 4) (σ 215) M 0 0 0 0 = X
    refine both_q h (nI X.1) (some (4, rsT c (σ 214 4) (σ 215) X)) (fun Q hq => ?_) (fun σ3 f3 Q hq => ?_)
    · refine k_116_0 ?_
      rw [show (Value.int 0) = .int (nI 0) from rfl, show (Value.int 20) = .int (nI 20) from rfl, s_isIn1 (Nat.zero_le M) hM (by decide), if_neg (by decide)]
      exact c_restsLoop hc hM (by omega) M 0 0 0 0 σ (by omega) (Nat.zero_le _) (Nat.zero_le _) (Nat.le_refl _) Fr.rf (fun σ' f' t' => by rw [hX] at t' ⊢; exact hq σ' ⟨by decide, f', t'⟩) _ _
    · refine k_256_0 ?_
      rw [show (Value.int 0) = .int (nI 0) from rfl, show (Value.int 20) = .int (nI 20) from rfl, s_in1 (Nat.zero_le M) hM (by decide), if_neg (by decide)]
      refine r_restsLoop hc f3 hM (by omega) M 0 0 0 0 _ (by omega) (Nat.zero_le _) (Nat.zero_le _) (Nat.le_refl _) (Fr.tr fr12 (Fr.tr up230 up230)) ?_ ?_ (fun σ' f' t' => by rw [hX] at t' ⊢; exact hq σ' ⟨f', t'⟩) _ _ _ _ _ _
      · simp only [zup_eq, zput_app, ↓reduceIte]
        rfl
      · simp only [zup_eq, zput_app, ↓reduceIte]
        rfl
