/-! a yawn begun; spreads, when, calm */ -/
def bg (r : Nat → Int32) (f : Nat) (x : Int32) : Nat → Int32 := upd (upd (upd r (18 + f) (r 46)) (27 + f) (-1)) (36 + f) x
theorem bg_cong {r r' : Nat → Int32} (h : REq r r') (f : Nat) (x : Int32) : REq (bg r f x) (bg r' f x) := by
  intro i hi
  unfold bg
  simp only [upd_app]
  rw [h i hi, h 46 (by omega)]
theorem bg_WR {F t f : Nat} {r : Nat → Int32} {x : Int32} (h9 : F ≤ 9) (hf : f < F) (hx : x = 0 ∨ x = 1) (h : WR F t r) : WR F t (bg r f x) := by
  obtain ⟨h1, h2, h3, y, h4, h5⟩ := h
  unfold bg
  refine ⟨?_, fun g hg => ?_, fun g hg => ?_, y, h4, ?_⟩
  · rw [upd_ne (by omega), upd_ne (by omega), upd_ne (by omega)]; exact h1
  · rw [upd_ne (by omega), upd_ne (by omega), upd_ne (by omega)]; exact h2 g hg
  · by_cases hgf : g = f
    · rw [hgf, upd_eq]; exact hx
    · rw [upd_ne (by omega), upd_ne (by omega), upd_ne (by omega)]; exact h3 g hg
  · rw [upd_ne (by omega), upd_ne (by omega), upd_ne (by omega)]; exact h5
theorem fr_pm26 {σ σ' : zS} (h : Fr (pm 26) σ σ') : Fr scC σ σ' := fr_scC h (fun o i q => by
  have := of_decide_eq_true q
  exact sc_hi (by omega))
theorem PC.row {c : MC} {l : List Int32} {t : Nat} {r r' : Nat → Int32} {σ σ' : zS} (h : PC c l t r σ) (hf : Fr (pm 26) σ σ') (hcm : CM 26 c.1 r' σ') (hw : WR c.1 t r') : PC c l t r' σ' := by
  obtain ⟨h1, ⟨g1, g2, g3, g4⟩, h3, h4, h5⟩ := h
  exact ⟨h1, ⟨(hf 3 2 (by decide)).trans g1, fun i hi => (hf 5 i (by simp [pm])).trans (g2 i hi), g3, g4⟩, CW.fr (Or.inr rfl) h3 (Fr.pm_pw (W := 23) hf), hcm, hw⟩
theorem c_planT {d : Nat} {σ : zS} {c : MC} {l : List Int32} {t f : Nat} {r : Nat → Int32} {x m : Int32} (h : PC c l t r σ) (hf : f < c.1) (hx : x = 0 ∨ x = 1) (hm : m = r 46) {Q : Int32 → zS → Prop} (hq : ∀ σ', Fr scC σ σ' → PC c l t (bg r f x) σ' → Q 0 σ') : ZC (d + 2) 27 [.ref 26, .int (nI f), .int m, .int (-1), .int x] σ Q := by
  have h9 := h.2.2.1.2.1
  rw [hm]
  refine c_plan23 h.2.2.2.1 h9 hf _ _ hx (fun σ' f1 c1 => ?_)
  exact hq σ' (fr_pm26 f1) (h.row f1 c1 (bg_WR h9 hf hx h.2.2.2.2))
theorem PF.set {c : MC} {l : List Int32} {t : Nat} {σ : zS} {g : Nat → Int32} (h : PF 226 c l t σ) (hw : WR c.1 t g) : PF 226 c l t (zput σ 226 g) := by
  refine PF.fr226 h (Fr.put (fun i q => by simp [pR] at q)) ?_
  simp only [zput_app, ↓reduceIte]
  exact hw
theorem fr226 {σ : zS} {g : Nat → Int32} : Fr scR σ (zput σ 226 g) := Fr.put (fun i q => by
  rw [sr_hi (by decide)] at q; cases q)
theorem e226 {σ : zS} {g : Nat → Int32} : (zput σ 226 g) 226 = g := by simp only [zput_app, ↓reduceIte]
theorem c_sumOfTally {d : Nat} {σ : zS} {F : Nat} {v : Nat → Nat} (hF : σ 14 3 = nI F) (h9 : F ≤ 9) (hv : ∀ f, f < F → σ 191 f = nI (v f)) (Q : Int32 → zS → Prop) : ZC (d + 1) 156 [.ref 0] σ Q = Q (nI (sm v F)) σ := by
  refine s_of (fun Q h => k_156_0 ?_) Q
  refine z_for (F := F) (P := fun k => Z d 156 Q 4 [.ref 0, .int (nI (sm v k)), .int (nI k)] [] σ) (fun k hk ih => ?_) ?_
  · refine k_156_4 ?_
    simp (disch := omega) only [zup_eq, zput_app, zput_twice, upd_same, nI_1, za2, zA2, zm2, za3, zA3, zm3, za4, zA4, zm4, za9, zA9, zm9, za10, zA10, zm10, za18, zA18, zm18, za27, zA27, zm27, za36, zA36, zm36, za48, zA48, zm48, za288, zA288, zm288, zcl, zinT, upd_ne, upd_eq, zlt, znlt, zl2, zn2_, zl3, zn3_, zl5, zn5_, zl9, zn9_, zl10, zn10_, zl16, zn16_, zl20, zn20_, zl40, zn40_, zl60, zn60_, zl76, zn76_, zl80, zn80_, zl288, zn288_, zl300, zn300_, zneg, Nat.reduceEqDiff, Nat.reduceAdd, ↓reduceIte, hF, hv k hk, nI_add]
    exact ih
  · refine k_156_4 ?_
    simp (disch := omega) only [zup_eq, zput_app, zput_twice, upd_same, nI_1, za2, zA2, zm2, za3, zA3, zm3, za4, zA4, zm4, za9, zA9, zm9, za10, zA10, zm10, za18, zA18, zm18, za27, zA27, zm27, za36, zA36, zm36, za48, zA48, zm48, za288, zA288, zm288, zcl, zinT, upd_ne, upd_eq, zlt, znlt, zl2, zn2_, zl3, zn3_, zl5, zn5_, zl9, zn9_, zl10, zn10_, zl16, zn16_, zl20, zn20_, zl40, zn40_, zl60, zn60_, zl76, zn76_, zl80, zn80_, zl288, zn288_, zl300, zn300_, zneg, Nat.reduceEqDiff, Nat.reduceAdd, ↓reduceIte, hF]
    exact h
def whoB (v : Nat → Nat) (F : Nat) : Int32 := bs (fun f => decide (0 < v f)) F
theorem i0_lt {n : Nat} (h : n < 2147483648) : (0 < nI n) = (0 < n) := propext (nI_ltI (a := 0) (by decide) h)
theorem c_thoseInTally {d : Nat} {σ : zS} {F : Nat} {v : Nat → Nat} (hF : σ 14 3 = nI F) (h9 : F ≤ 9) (hv : ∀ f, f < F → σ 191 f = nI (v f)) (hb : ∀ f, v f ≤ 100000) (Q : Int32 → zS → Prop) : ZC (d + 2) 157 [.ref 0] σ Q = Q (whoB v F) σ := by
  refine s_of (fun Q h => k_157_0 ?_) Q
  refine z_for (F := F) (P := fun k => Z (d + 1) 157 Q 4 [.ref 0, .int (bs (fun f => decide (0 < v f)) k), .int (nI k)] [] σ) (fun k hk ih => ?_) ?_
  · refine k_157_4 ?_
    have := hb k
    simp (disch := omega) only [zup_eq, zput_app, zput_twice, upd_same, nI_1, za2, zA2, zm2, za3, zA3, zm3, za4, zA4, zm4, za9, zA9, zm9, za10, zA10, zm10, za18, zA18, zm18, za27, zA27, zm27, za36, zA36, zm36, za48, zA48, zm48, za288, zA288, zm288, zcl, zinT, upd_ne, upd_eq, zlt, znlt, zl2, zn2_, zl3, zn3_, zl5, zn5_, zl9, zn9_, zl10, zn10_, zl16, zn16_, zl20, zn20_, zl40, zn40_, zl60, zn60_, zl76, zn76_, zl80, zn80_, zl288, zn288_, zl300, zn300_, zneg, Nat.reduceEqDiff, Nat.reduceAdd, ↓reduceIte, hF, hv k hk, i0_lt, s_bit, i_or0]
    rw [bs_1] at ih
    by_cases hp : 0 < v k
    · rw [if_pos hp]; rw [decide_eq_true hp] at ih; exact ih
    · rw [if_neg hp]; rw [decide_eq_false hp] at ih; exact ih
  · refine k_157_4 ?_
    simp (disch := omega) only [zup_eq, zput_app, zput_twice, upd_same, nI_1, za2, zA2, zm2, za3, zA3, zm3, za4, zA4, zm4, za9, zA9, zm9, za10, zA10, zm10, za18, zA18, zm18, za27, zA27, zm27, za36, zA36, zm36, za48, zA48, zm48, za288, zA288, zm288, zcl, zinT, upd_ne, upd_eq, zlt, znlt, zl2, zn2_, zl3, zn3_, zl5, zn5_, zl9, zn9_, zl10, zn10_, zl16, zn16_, zl20, zn20_, zl40, zn40_, zl60, zn60_, zl76, zn76_, zl80, zn80_, zl288, zn288_, zl300, zn300_, zneg, Nat.reduceEqDiff, Nat.reduceAdd, ↓reduceIte, hF]
    exact h
theorem r_whoYawns {d : Nat} {σ : zS} {F : Nat} {v : Nat → Nat} (hF : σ 214 1 = nI F) (h9 : F ≤ 9) (hv : ∀ f, f < F → σ 227 f = nI (v f)) (hb : ∀ f, v f ≤ 100000) (Q : Int32 → zS → Prop) : ZC (d + 1) 234 [.ref 214] σ Q = Q (whoB v F) σ := by
  refine s_of (fun Q h => k_234_0 ?_) Q
  refine z_for (F := F) (P := fun k => Z d 234 Q 4 [.ref 214, .int (bs (fun f => decide (0 < v f)) k), .int (nI k)] [] σ) (fun k hk ih => ?_) ?_
  · refine k_234_4 ?_
    have := hb k
    simp (disch := omega) only [zup_eq, zput_app, zput_twice, upd_same, nI_1, za2, zA2, zm2, za3, zA3, zm3, za4, zA4, zm4, za9, zA9, zm9, za10, zA10, zm10, za18, zA18, zm18, za27, zA27, zm27, za36, zA36, zm36, za48, zA48, zm48, za288, zA288, zm288, zcl, zinT, upd_ne, upd_eq, zlt, znlt, zl2, zn2_, zl3, zn3_, zl5, zn5_, zl9, zn9_, zl10, zn10_, zl16, zn16_, zl20, zn20_, zl40, zn40_, zl60, zn60_, zl76, zn76_, zl80, zn80_, zl288, zn288_, zl300, zn300_, zneg, Nat.reduceEqDiff, Nat.reduceAdd, ↓reduceIte, hF, hv k hk, i0_lt, i_or0]
    rw [bs_1] at ih
    by_cases hp : 0 < v k
    · rw [if_pos hp]; rw [decide_eq_true hp] at ih; exact ih
    · rw [if_neg hp]; rw [decide_eq_false hp] at ih; exact ih
  · refine k_234_4 ?_
    simp (disch := omega) only [zup_eq, zput_app, zput_twice, upd_same, nI_1, za2, zA2, zm2, za3, zA3, zm3, za4, zA4, zm4, za9, zA9, zm9, za10, zA10, zm10, za18, zA18, zm18, za27, zA27, zm27, za36, zA36, zm36, za48, zA48, zm48, za288, zA288, zm288, zcl, zinT, upd_ne, upd_eq, zlt, znlt, zl2, zn2_, zl3, zn3_, zl5, zn5_, zl9, zn9_, zl10, zn10_, zl16, zn16_, zl20, zn20_, zl40, zn40_, zl60, zn60_, zl76, zn76_, zl80, zn80_, zl288, zn288_, zl300, zn300_, zneg, Nat.reduceEqDiff, Nat.reduceAdd, ↓reduceIte, hF]
    exact h
theorem Ctx.hcm {c : MC} {l : List Int32} {t : Nat} {σ : zS} (h : Ctx c l t σ) : CM 17 c.1 (σ 215) σ := h.2.2.2.1
theorem tC_215 {σ σ' : zS} (h : Fr tC σ σ') : σ' 215 = σ 215 := funext fun i => h 215 i (by simp [tC])
theorem tR_215 {σ σ' : zS} (h : Fr tR σ σ') : σ' 215 = σ 215 := funext fun i => h 215 i (by simp [tR, scrT, scr, dTold])
theorem call_spreads {d e b : Nat} {σ : zS} (x y : Int32) (h : Inv b σ) (hb : b < 90000000) : Both (d + 7) 104 [.ref 0, .int x, .int y] (e + 228) 235 [.ref 214, .int x, .int y] b σ := by
  obtain ⟨c, l, t, ht, hc⟩ := h.ctx
  have h9 := hc.h9
  have no : (x < 0 ∨ nI c.1 ≤ x) → Both (d + 7) 104 [.ref 0, .int x, .int y] (e + 228) 235 [.ref 214, .int x, .int y] b σ := by
    intro hx
    refine both_q h (-1) none (fun Q hq => ?_) (fun σ3 f3 Q hq => ?_)
    · refine k_104_0 ?_
      rw [c_isFace0 hc.h14 hx, if_pos rfl]
      exact hq σ Fr.rf
    · refine k_235_0 ?_
      have hR : (zup σ3 214 12 0) 214 1 = nI c.1 := ((fr12 (σ := σ3)) 214 1 (by decide)).trans ((tC_1 f3).trans hc.hR)
      rw [r_isFace0 hR h9 hx, if_pos rfl]
      exact hq _ fr12
  rcases faceC x h9 with hx | ⟨f, hf, rfl⟩
  · exact no hx
  rcases rngC y 1 300 (by decide) (by decide) with hy | ⟨n, hn1, hn, rfl⟩
  · have hy : y < (1 : Int32) ∨ (300 : Int32) < y := hy
    refine both_q h (-1) none (fun Q hq => ?_) (fun σ3 f3 Q hq => ?_)
    · refine k_104_0 ?_
      rw [c_isFace1 hc.h14 h9 hf, if_neg (by decide), s_isIn0 hy, if_pos rfl]
      exact hq σ Fr.rf
    · refine k_235_0 ?_
      have hR : (zup σ3 214 12 0) 214 1 = nI c.1 := ((fr12 (σ := σ3)) 214 1 (by decide)).trans ((tC_1 f3).trans hc.hR)
      rw [r_isFace1 hR h9 hf, if_neg (by decide), r_isMore0 hy, if_pos rfl]
      exact hq _ fr12
  cases hcy : cyw (σ 215) f
  · refine both_q h (-2) none (fun Q hq => ?_) (fun σ3 f3 Q hq => ?_)
    · refine k_104_0 ?_
      rw [c_isFace1 hc.h14 h9 hf, if_neg (by decide), show (Value.int 1) = .int (nI 1) from rfl, show (Value.int 300) = .int (nI 300) from rfl, s_isIn1 hn1 hn (by decide), if_neg (by decide), c_canYawn hc.h14 h9 hc.hcm hf, hcy, if_pos (by decide)]
      exact hq σ Fr.rf
    · refine k_235_0 ?_
      have hR : (zup σ3 214 12 0) 214 1 = nI c.1 := ((fr12 (σ := σ3)) 214 1 (by decide)).trans ((tC_1 f3).trans hc.hR)
      have h215 : (zup σ3 214 12 0) 215 = σ 215 := (tR_215 fr12.rT).trans (tC_215 f3)
      rw [r_isFace1 hR h9 hf, if_neg (by decide), r_isMore1 hn1 hn, if_neg (by decide), r_canYawn hR h9 hf, h215, hcy, if_pos (by decide)]
      exact hq _ fr12
  · generalize hv : plT c n (σ 215) = v
    generalize hw : plT c n (bg (σ 215) f 0) = w
    have hvb : ∀ g, v g ≤ 100000 := fun g => by have := plT_le c n (σ 215) g; rw [hv] at this; omega
    have hwb : ∀ g, w g ≤ 100000 := fun g => by have := plT_le c n (bg (σ 215) f 0) g; rw [hw] at this; omega
    refine both_q h (whoB w c.1 &&& (whoB v c.1 ^^^ (-1))) (some (1, tv1 (nI (sm w c.1) - nI (sm v c.1)))) (fun Q hq => ?_) (fun σ3 f3 Q hq => ?_)
    · refine k_104_0 ?_
      rw [c_isFace1 hc.h14 h9 hf, if_neg (by decide), show (Value.int 1) = .int (nI 1) from rfl, show (Value.int 300) = .int (nI 300) from rfl, s_isIn1 hn1 hn (by decide), if_neg (by decide), c_canYawn hc.h14 h9 hc.hcm hf, hcy, if_neg (by decide)]
      refine c_take2 hc Fr.rf (fun σ1 f1 p1 => ?_)
      refine c_playOn p1 ((tC_14 f1.cT).trans hc.h14) hn (by omega) (fun σ2 f2 e2 => ?_)
      rw [hv] at e2
      have f12' := Fr.tr f1 f2
      have g14 : σ2 14 3 = nI c.1 := (tC_14 f12'.cT).trans hc.h14
      rw [c_sumOfTally g14 h9 e2, c_thoseInTally g14 h9 e2 hvb]
      refine c_take2 hc f12'.cT (fun σ3 f3 p3 => ?_)
      refine c_planT p3 hf (Or.inl rfl) p3.2.2.2.1.2.2.2.2 (fun σ4 f4 p4 => ?_)
      have f14 := Fr.tr f12' (Fr.tr f3 f4)
      refine c_playOn p4 ((tC_14 f14.cT).trans hc.h14) hn (by omega) (fun σ5 f5 e5 => ?_)
      rw [hw] at e5
      have f15 := Fr.tr f14 f5
      have g15 : σ5 14 3 = nI c.1 := (tC_14 f15.cT).trans hc.h14
      rw [c_sumOfTally g15 h9 e5]
      refine c_tell1 (fun σ6 f6 t6 => ?_)
      rw [c_thoseInTally ((f6 14 3 (by decide)).trans g15) h9 (fun g hg => (f6 191 g (by simp [frTC])).trans (e5 g hg)) hwb]
      exact hq σ6 ⟨by decide, Fr.tr f15.cT f6.sTC, t6⟩
    · refine k_235_0 ?_
      have hR : (zup σ3 214 12 0) 214 1 = nI c.1 := ((fr12 (σ := σ3)) 214 1 (by decide)).trans ((tC_1 f3).trans hc.hR)
      have h215 : (zup σ3 214 12 0) 215 = σ 215 := (tR_215 fr12.rT).trans (tC_215 f3)
      rw [r_isFace1 hR h9 hf, if_neg (by decide), r_isMore1 hn1 hn, if_neg (by decide), r_canYawn hR h9 hf, h215, hcy, if_neg (by decide)]
      refine r_begin2 hc f3 fr12.rT (fun σ5 f5' f5 p5 e7 e4 e5 => ?_)
      have hreq : REq (σ5 226) (σ 215) := fun i hi => e5 i (by omega)
      refine r_count0 p5 e7 hn (by omega) (fun σ6 f6 e6 e38 => ?_)
      have e6' : ∀ f, f < c.1 → σ6 227 f = nI (v f) := fun f hf => by rw [e6 f hf, plT_cong h9 n _ _ f (by omega) hreq, hv]
      have hsm : sm (plT c n (σ5 226)) c.1 = sm v c.1 := by rw [← hv]; exact sm_cong _ (fun f hf => plT_cong h9 n _ _ f (by omega) hreq)
      rw [hsm]
      have f36 : Fr scR σ3 σ6 := Fr.tr fr12 (Fr.tr f5 f6)
      have g6 : σ6 214 1 = nI c.1 := (tR_1 f36.rT).trans ((tC_1 f3).trans hc.hR)
      rw [r_whoYawns g6 h9 e6' hvb]
      refine r_begin2 hc f3 f36.rT (fun σ7 f7' f7 p7 k7 k4 e8 => ?_)
      rw [r_begins226 (by omega)]
      have hbg : REq (bg (σ7 226) f 0) (bg (σ 215) f 0) := bg_cong (fun i hi => e8 i (by omega)) f 0
      have p8 : PF 226 c l t (zput σ7 226 (bg (σ7 226) f 0)) := p7.set (bg_WR h9 hf (Or.inl rfl) p7.2.2.2.2.2.2)
      have k8 : (zput σ7 226 (bg (σ7 226) f 0)) 214 7 = 0 := by simp only [zput_app, Nat.reduceEqDiff, ↓reduceIte]; exact k7
      refine r_count0 p8 k8 hn (by omega) (fun σ9 f9 e9 e38' => ?_)
      rw [e226] at e9 ⊢
      have e9' : ∀ f', f' < c.1 → σ9 227 f' = nI (w f') := fun f' hf' => by rw [e9 f' hf', plT_cong h9 n _ _ f' (by omega) hbg, hw]
      have hsm2 : sm (plT c n (bg (σ7 226) f 0)) c.1 = sm w c.1 := by rw [← hw]; exact sm_cong _ (fun f' hf' => plT_cong h9 n _ _ f' (by omega) hbg)
      rw [hsm2]
      have f39 : Fr scR σ3 σ9 := Fr.tr f36 (Fr.tr f7 (Fr.tr fr226 f9))
      refine r_tell1 (fun σ10 f10 t10 => ?_)
      have g10 : σ10 214 1 = nI c.1 := (tR_1 (Fr.tr f39.rT f10.sTR)).trans ((tC_1 f3).trans hc.hR)
      rw [r_whoYawns g10 h9 (fun g hg => (f10 227 g (by simp [frTR])).trans (e9' g hg)) hwb]
      exact hq σ10 ⟨Fr.tr f39.rT f10.sTR, t10⟩
