/-! ahead, watch -/
theorem c_take2 {d : Nat} {σ σ1 : zS} {c : MC} {l : List Int32} {t : Nat} (h : Ctx c l t σ) (f1 : Fr tC σ σ1) {Q : Int32 → zS → Prop} (hq : ∀ σ', Fr scC σ1 σ' → PC c l t (σ 215) σ' → Q 0 σ') : ZC (d + 2) 71 [.ref 23, .ref 14] σ1 Q := by
  refine c_take1 (h.fr (FrCT f1)) (fun σ' g1 p1 => hq σ' g1 ?_)
  rw [show σ1 215 = σ 215 from funext fun i => f1 215 i (by simp [tC])] at p1
  exact p1
theorem r_begin2 {d : Nat} {σ σ3 σ4 : zS} {c : MC} {l : List Int32} {t : Nat} (h : Ctx c l t σ) (f3 : Fr tC σ σ3) (f4 : Fr tR σ3 σ4) {Q : Int32 → zS → Prop} (hq : ∀ σ5, Fr (fun o _ => decide (o = 226)) σ4 σ5 → Fr scR σ4 σ5 → PF 226 c l t σ5 → σ5 214 7 = 0 → σ5 214 4 = σ 214 4 → (∀ i, i < 288 → σ5 226 i = σ 215 i) → Q 0 σ5) : ZC (d + 2) 227 [.ref 214] σ4 Q := by
  have hc := (h.fr (FrCT f3)).fr (FrRT f4)
  refine r_begin1 hc (fun σ5 f5 p5 e5 => hq σ5 f5 (Fr.s226 f5) p5 ?_ ?_ (fun i hi => ?_))
  · exact (f5 214 7 (by decide)).trans hc.2.2.2.2.2.2.2.2.2.1
  · exact (f5 214 4 (by decide)).trans ((f4 214 4 (by decide)).trans (f3 214 4 (by decide)))
  · rw [e5 i hi, f4 215 i (by simp [tR, scrT, scr, dTold]), f3 215 i (by simp [tC])]
theorem Ctx.h14 {c : MC} {l : List Int32} {t : Nat} {σ : zS} (h : Ctx c l t σ) : σ 14 3 = nI c.1 := h.2.2.1.1
theorem Ctx.h9 {c : MC} {l : List Int32} {t : Nat} {σ : zS} (h : Ctx c l t σ) : c.1 ≤ 9 := h.2.2.1.2.1
theorem Ctx.hR {c : MC} {l : List Int32} {t : Nat} {σ : zS} (h : Ctx c l t σ) : σ 214 1 = nI c.1 := h.2.2.2.2.2.2.2.1.1
theorem tC_14 {σ σ' : zS} (h : Fr tC σ σ') : σ' 14 3 = σ 14 3 := h 14 3 (by decide)
theorem tR_1 {σ σ' : zS} (h : Fr tR σ σ') : σ' 214 1 = σ 214 1 := h 214 1 (by decide)
theorem tC_1 {σ σ' : zS} (h : Fr tC σ σ') : σ' 214 1 = σ 214 1 := h 214 1 (by decide)
theorem call_ahead {d e b : Nat} {σ : zS} (x : Int32) (h : Inv b σ) (hb : b < 90000000) : Both (d + 7) 101 [.ref 0, .int x] (e + 228) 231 [.ref 214, .int x] b σ := by
  obtain ⟨c, l, t, ht, hc⟩ := h.ctx
  have h9 := hc.h9
  rcases rngC x 0 300 (by decide) (by decide) with hx | ⟨n, -, hn, rfl⟩
  · have hx : x < (0 : Int32) ∨ (300 : Int32) < x := hx
    refine both_q h (-1) none (fun Q hq => ?_) (fun σ3 f3 Q hq => ?_)
    · refine k_101_0 ?_
      rw [s_isIn0 hx, if_pos rfl]
      exact hq σ Fr.rf
    · refine k_231_0 ?_
      rw [s_in0 hx, if_pos rfl]
      exact hq _ fr12
  · refine both_q h (nI (sm (plT c n (σ 215)) c.1)) (some (c.1, fun f => nI (plT c n (σ 215) f))) (fun Q hq => ?_) (fun σ3 f3 Q hq => ?_)
    · refine k_101_0 ?_
      rw [show (Value.int 0) = .int (nI 0) from rfl, show (Value.int 300) = .int (nI 300) from rfl, s_isIn1 (Nat.zero_le n) hn (by decide), if_neg (by decide)]
      refine c_take2 hc Fr.rf (fun σ1 f1 p1 => ?_)
      refine c_playOn p1 ((tC_14 f1.cT).trans hc.h14) hn (by omega) (fun σ2 f2 e2 => ?_)
      have f12' := Fr.tr f1 f2
      have g14 : σ2 14 3 = nI c.1 := (tC_14 f12'.cT).trans hc.h14
      rw [g14]
      have hz := z_for (F := c.1) (P := fun k => ∀ σ4, Fr tC σ σ4 → σ4 0 12 = nI c.1 → (∀ f, f < c.1 → σ4 191 f = nI (plT c n (σ 215) f)) → (∀ f, f < k → σ4 190 f = nI (plT c n (σ 215) f)) → Z (d + 6) 101 Q 45 [.ref 0, .int (nI n), .int (nI (sm (plT c n (σ 215)) k)), .int (nI k)] [] σ4) (fun k hk ih => ?_) ?_
      · refine hz _ (Fr.tr f12'.cT (Fr.up (by decide))) (by simp (disch := omega) only [zup_eq, zput_app, zput_twice, upd_same, nI_1, za2, zA2, zm2, za3, zA3, zm3, za4, zA4, zm4, za9, zA9, zm9, za10, zA10, zm10, za18, zA18, zm18, za27, zA27, zm27, za36, zA36, zm36, za48, zA48, zm48, za288, zA288, zm288, zcl, zinT, upd_ne, upd_eq, zlt, znlt, zl2, zn2_, zl3, zn3_, zl5, zn5_, zl9, zn9_, zl10, zn10_, zl16, zn16_, zl20, zn20_, zl40, zn40_, zl60, zn60_, zl76, zn76_, zl80, zn80_, zl288, zn288_, zl300, zn300_, zneg, Nat.reduceEqDiff, Nat.reduceAdd, ↓reduceIte]) (fun f hf => ?_) (fun f hf => absurd hf (Nat.not_lt_zero f))
        simp (disch := omega) only [zup_eq, zput_app, zput_twice, upd_same, nI_1, za2, zA2, zm2, za3, zA3, zm3, za4, zA4, zm4, za9, zA9, zm9, za10, zA10, zm10, za18, zA18, zm18, za27, zA27, zm27, za36, zA36, zm36, za48, zA48, zm48, za288, zA288, zm288, zcl, zinT, upd_ne, upd_eq, zlt, znlt, zl2, zn2_, zl3, zn3_, zl5, zn5_, zl9, zn9_, zl10, zn10_, zl16, zn16_, zl20, zn20_, zl40, zn40_, zl60, zn60_, zl76, zn76_, zl80, zn80_, zl288, zn288_, zl300, zn300_, zneg, Nat.reduceEqDiff, Nat.reduceAdd, ↓reduceIte]
        exact e2 f hf
      · intro σ4 f4 e12 e191 e190
        refine k_101_45 ?_
        have g : σ4 14 3 = nI c.1 := (tC_14 f4).trans hc.h14
        simp (disch := omega) only [zup_eq, zput_app, zput_twice, upd_same, nI_1, za2, zA2, zm2, za3, zA3, zm3, za4, zA4, zm4, za9, zA9, zm9, za10, zA10, zm10, za18, zA18, zm18, za27, zA27, zm27, za36, zA36, zm36, za48, zA48, zm48, za288, zA288, zm288, zcl, zinT, upd_ne, upd_eq, zlt, znlt, zl2, zn2_, zl3, zn3_, zl5, zn5_, zl9, zn9_, zl10, zn10_, zl16, zn16_, zl20, zn20_, zl40, zn40_, zl60, zn60_, zl76, zn76_, zl80, zn80_, zl288, zn288_, zl300, zn300_, zneg, Nat.reduceEqDiff, Nat.reduceAdd, ↓reduceIte, g, e191 k hk, nI_add]
        refine ih _ (Fr.tr f4 (Fr.put (fun i q => by simp [tC, scrT, dTold] at q))) (by simp (disch := omega) only [zup_eq, zput_app, zput_twice, upd_same, nI_1, za2, zA2, zm2, za3, zA3, zm3, za4, zA4, zm4, za9, zA9, zm9, za10, zA10, zm10, za18, zA18, zm18, za27, zA27, zm27, za36, zA36, zm36, za48, zA48, zm48, za288, zA288, zm288, zcl, zinT, upd_ne, upd_eq, zlt, znlt, zl2, zn2_, zl3, zn3_, zl5, zn5_, zl9, zn9_, zl10, zn10_, zl16, zn16_, zl20, zn20_, zl40, zn40_, zl60, zn60_, zl76, zn76_, zl80, zn80_, zl288, zn288_, zl300, zn300_, zneg, Nat.reduceEqDiff, Nat.reduceAdd, ↓reduceIte]; exact e12) (fun f hf => by simp (disch := omega) only [zup_eq, zput_app, zput_twice, upd_same, nI_1, za2, zA2, zm2, za3, zA3, zm3, za4, zA4, zm4, za9, zA9, zm9, za10, zA10, zm10, za18, zA18, zm18, za27, zA27, zm27, za36, zA36, zm36, za48, zA48, zm48, za288, zA288, zm288, zcl, zinT, upd_ne, upd_eq, zlt, znlt, zl2, zn2_, zl3, zn3_, zl5, zn5_, zl9, zn9_, zl10, zn10_, zl16, zn16_, zl20, zn20_, zl40, zn40_, zl60, zn60_, zl76, zn76_, zl80, zn80_, zl288, zn288_, zl300, zn300_, zneg, Nat.reduceEqDiff, Nat.reduceAdd, ↓reduceIte]; exact e191 f hf) (fun f hf => ?_)
        simp only [zput_app, ↓reduceIte]
        by_cases hfk : f = k
        · rw [hfk, upd_eq]
        · rw [upd_ne hfk]; exact e190 f (by omega)
      · intro σ4 f4 e12 e191 e190
        refine k_101_45 ?_
        have g : σ4 14 3 = nI c.1 := (tC_14 f4).trans hc.h14
        simp (disch := omega) only [zup_eq, zput_app, zput_twice, upd_same, nI_1, za2, zA2, zm2, za3, zA3, zm3, za4, zA4, zm4, za9, zA9, zm9, za10, zA10, zm10, za18, zA18, zm18, za27, zA27, zm27, za36, zA36, zm36, za48, zA48, zm48, za288, zA288, zm288, zcl, zinT, upd_ne, upd_eq, zlt, znlt, zl2, zn2_, zl3, zn3_, zl5, zn5_, zl9, zn9_, zl10, zn10_, zl16, zn16_, zl20, zn20_, zl40, zn40_, zl60, zn60_, zl76, zn76_, zl80, zn80_, zl288, zn288_, zl300, zn300_, zneg, Nat.reduceEqDiff, Nat.reduceAdd, ↓reduceIte, g]
        exact hq σ4 ⟨by omega, f4, e12, e190⟩
    · refine k_231_0 ?_
      rw [show (Value.int 0) = .int (nI 0) from rfl, show (Value.int 300) = .int (nI 300) from rfl, s_in1 (Nat.zero_le n) hn (by decide), if_neg (by decide)]
      refine r_begin2 hc f3 fr12.rT (fun σ5 f5' f5 p5 e7 e4 e5 => ?_)
      have hreq : REq (σ5 226) (σ 215) := fun i hi => e5 i (by omega)
      refine r_count0 p5 e7 hn (by omega) (fun σ6 f6 e6 e38 => ?_)
      have hsm : sm (plT c n (σ5 226)) c.1 = sm (plT c n (σ 215)) c.1 := sm_cong _ (fun f hf => plT_cong h9 n _ _ f (by omega) hreq)
      rw [hsm]
      have e6' : ∀ f, f < c.1 → σ6 227 f = nI (plT c n (σ 215) f) := fun f hf => by rw [e6 f hf, plT_cong h9 n _ _ f (by omega) hreq]
      have f36 : Fr scR σ3 σ6 := Fr.tr fr12 (Fr.tr f5 f6)
      have hz := z_for (F := c.1) (P := fun k => ∀ σ7, Fr tR σ3 σ7 → (∀ f, f < c.1 → σ7 227 f = nI (plT c n (σ 215) f)) → TLr k (fun f => nI (plT c n (σ 215) f)) σ7 → Z (e + 227) 231 Q 35 [.ref 214, .int (nI n), .int (nI (sm (plT c n (σ 215)) c.1)), .int (nI k)] [] σ7) (fun k hk ih => ?_) ?_
      · refine hz _ (Fr.tr f36.rT fr11.sTR) (fun f hf => by simp (disch := omega) only [zup_eq, zput_app, zput_twice, upd_same, nI_1, za2, zA2, zm2, za3, zA3, zm3, za4, zA4, zm4, za9, zA9, zm9, za10, zA10, zm10, za18, zA18, zm18, za27, zA27, zm27, za36, zA36, zm36, za48, zA48, zm48, za288, zA288, zm288, zcl, zinT, upd_ne, upd_eq, zlt, znlt, zl2, zn2_, zl3, zn3_, zl5, zn5_, zl9, zn9_, zl10, zn10_, zl16, zn16_, zl20, zn20_, zl40, zn40_, zl60, zn60_, zl76, zn76_, zl80, zn80_, zl288, zn288_, zl300, zn300_, zneg, Nat.reduceEqDiff, Nat.reduceAdd, ↓reduceIte]; exact e6' f hf) (TLr.zero _ _)
      · intro σ7 f7 e227 t7
        refine k_231_35 ?_
        have g : σ7 214 1 = nI c.1 := (tR_1 f7).trans ((tC_1 f3).trans hc.hR)
        simp (disch := omega) only [zup_eq, zput_app, zput_twice, upd_same, nI_1, za2, zA2, zm2, za3, zA3, zm3, za4, zA4, zm4, za9, zA9, zm9, za10, zA10, zm10, za18, zA18, zm18, za27, zA27, zm27, za36, zA36, zm36, za48, zA48, zm48, za288, zA288, zm288, zcl, zinT, upd_ne, upd_eq, zlt, znlt, zl2, zn2_, zl3, zn3_, zl5, zn5_, zl9, zn9_, zl10, zn10_, zl16, zn16_, zl20, zn20_, zl40, zn40_, zl60, zn60_, zl76, zn76_, zl80, zn80_, zl288, zn288_, zl300, zn300_, zneg, Nat.reduceEqDiff, Nat.reduceAdd, ↓reduceIte, g, e227 k hk]
        refine r_tellN t7 (by omega) (fun σ8 f8 t8 => ?_)
        refine ih σ8 (Fr.tr f7 f8.sTR) (fun f hf => (f8 227 f (by simp [frTR])).trans (e227 f hf)) ⟨t8.1, fun i hi => ?_⟩
        rw [t8.2 i hi]
        by_cases hik : i = k
        · rw [hik, upd_eq]
        · rw [upd_ne hik]
      · intro σ7 f7 e227 t7
        refine k_231_35 ?_
        have g : σ7 214 1 = nI c.1 := (tR_1 f7).trans ((tC_1 f3).trans hc.hR)
        simp (disch := omega) only [zup_eq, zput_app, zput_twice, upd_same, nI_1, za2, zA2, zm2, za3, zA3, zm3, za4, zA4, zm4, za9, zA9, zm9, za10, zA10, zm10, za18, zA18, zm18, za27, zA27, zm27, za36, zA36, zm36, za48, zA48, zm48, za288, zA288, zm288, zcl, zinT, upd_ne, upd_eq, zlt, znlt, zl2, zn2_, zl3, zn3_, zl5, zn5_, zl9, zn9_, zl10, zn10_, zl16, zn16_, zl20, zn20_, zl40, zn40_, zl60, zn60_, zl76, zn76_, zl80, zn80_, zl288, zn288_, zl300, zn300_, zneg, Nat.reduceEqDiff, Nat.reduceAdd, ↓reduceIte, g]
        exact hq σ7 ⟨f7, t7⟩
/-- the first with the most -/
def mst (v : Nat → Nat) : Nat → Option Nat
  | 0 => none
  | k + 1 => match mst v k with
    | none => if 0 < v k then some k else none
    | some m => if v m < v k then some k else some m
def optI : Option Nat → Int32
  | none => -1
  | some m => nI m
theorem mst_lt (v : Nat → Nat) : ∀ k m, mst v k = some m → m < k ∧ 0 < v m := by
  intro k
  induction k with
  | zero => intro m h; cases h
  | succ k ih =>
    intro m h
    unfold mst at h
    split at h
    · split at h
      · rename_i q; cases h; exact ⟨Nat.lt_succ_self k, q⟩
      · cases h
    · rename_i m' hm
      obtain ⟨g1, g2⟩ := ih m' hm
      split at h
      · rename_i q; cases h; exact ⟨Nat.lt_succ_self k, by omega⟩
      · cases h; exact ⟨by omega, g2⟩
theorem mst_none (v : Nat → Nat) : ∀ k, mst v k = none → ∀ j, j < k → v j = 0 := by
  intro k
  induction k with
  | zero => intro _ j hj; exact absurd hj (Nat.not_lt_zero j)
  | succ k ih =>
    intro h j hj
    unfold mst at h
    split at h
    · rename_i hn
      split at h
      · cases h
      · by_cases hjk : j = k
        · subst hjk; omega
        · exact ih hn j (by omega)
    · split at h <;> cases h
theorem sm_0 {v : Nat → Nat} : ∀ n, sm v n = 0 ↔ ∀ j, j < n → v j = 0 := by
  intro n
  induction n with
  | zero => exact ⟨fun _ j hj => absurd hj (Nat.not_lt_zero j), fun _ => rfl⟩
  | succ n ih =>
    rw [sm_1]
    constructor
    · intro h j hj
      by_cases hjn : j = n
      · subst hjn; omega
      · exact ih.mp (by omega) j (by omega)
    · intro h
      have := ih.mpr (fun j hj => h j (by omega))
      have := h n (by omega)
      omega
theorem mst_some {v : Nat → Nat} {n : Nat} (h : sm v n ≠ 0) : ∃ m, mst v n = some m := by
  cases hm : mst v n with
  | none => exact absurd ((sm_0 n).mpr (mst_none v n hm)) h
  | some m => exact ⟨m, rfl⟩
theorem c_mostInTally {d : Nat} {σ : zS} {F : Nat} {v : Nat → Nat} (hF : σ 14 3 = nI F) (h9 : F ≤ 9) (hv : ∀ f, f < F → σ 191 f = nI (v f)) (hb : ∀ f, f < F → v f ≤ 100000) (Q : Int32 → zS → Prop) : ZC (d + 1) 155 [.ref 0] σ Q = Q (optI (mst v F)) σ := by
  refine s_of (fun Q h => k_155_0 ?_) Q
  refine z_for (F := F) (P := fun k => Z d 155 Q 4 [.ref 0, .int (optI (mst v k)), .int (nI k)] [] σ) (fun k hk ih => ?_) ?_
  · refine k_155_4 ?_
    simp (disch := omega) only [zup_eq, zput_app, zput_twice, upd_same, nI_1, za2, zA2, zm2, za3, zA3, zm3, za4, zA4, zm4, za9, zA9, zm9, za10, zA10, zm10, za18, zA18, zm18, za27, zA27, zm27, za36, zA36, zm36, za48, zA48, zm48, za288, zA288, zm288, zcl, zinT, upd_ne, upd_eq, zlt, znlt, zl2, zn2_, zl3, zn3_, zl5, zn5_, zl9, zn9_, zl10, zn10_, zl16, zn16_, zl20, zn20_, zl40, zn40_, zl60, zn60_, zl76, zn76_, zl80, zn80_, zl288, zn288_, zl300, zn300_, zneg, Nat.reduceEqDiff, Nat.reduceAdd, ↓reduceIte, hF]
    unfold mst at ih
    cases hm : mst v k with
    | none =>
      rw [hm] at ih
      rw [if_pos (show optI none = -1 from rfl), hv k hk]
      dsimp only at ih
      by_cases hp : 0 < v k
      · rw [if_pos hp] at ih
        rw [if_pos (show (0 : Int32) < nI (v k) from nI_lt (a := 0) hp (by have := hb k hk; omega))]
        exact ih
      · rw [if_neg hp] at ih
        rw [if_neg (show ¬ (0 : Int32) < nI (v k) from nI_nlt (a := 0) (by omega) (by decide))]
        exact ih
    | some m =>
      rw [hm] at ih
      obtain ⟨g1, g2⟩ := mst_lt v k m hm
      have hne : ¬ optI (some m) = -1 := by
        show ¬ nI m = -1
        rw [ne_m1 m (by omega)]; exact fun q => q
      rw [if_neg hne]
      have e : optI (some m) = nI m := rfl
      rw [e]
      simp (disch := omega) only [zup_eq, zput_app, zput_twice, upd_same, nI_1, za2, zA2, zm2, za3, zA3, zm3, za4, zA4, zm4, za9, zA9, zm9, za10, zA10, zm10, za18, zA18, zm18, za27, zA27, zm27, za36, zA36, zm36, za48, zA48, zm48, za288, zA288, zm288, zcl, zinT, upd_ne, upd_eq, zlt, znlt, zl2, zn2_, zl3, zn3_, zl5, zn5_, zl9, zn9_, zl10, zn10_, zl16, zn16_, zl20, zn20_, zl40, zn40_, zl60, zn60_, zl76, zn76_, zl80, zn80_, zl288, zn288_, zl300, zn300_, zneg, Nat.reduceEqDiff, Nat.reduceAdd, ↓reduceIte]
      rw [hv k hk, hv m (by omega)]
      dsimp only at ih
      have b1 := hb k hk
      have b2 := hb m (by omega)
      by_cases hp : v m < v k
      · rw [if_pos hp] at ih
        rw [if_pos (nI_lt hp (by omega))]
        exact ih
      · rw [if_neg hp] at ih
        rw [if_neg (nI_nlt (by omega) (by omega))]
        exact ih
  · refine k_155_4 ?_
    simp (disch := omega) only [zup_eq, zput_app, zput_twice, upd_same, nI_1, za2, zA2, zm2, za3, zA3, zm3, za4, zA4, zm4, za9, zA9, zm9, za10, zA10, zm10, za18, zA18, zm18, za27, zA27, zm27, za36, zA36, zm36, za48, zA48, zm48, za288, zA288, zm288, zcl, zinT, upd_ne, upd_eq, zlt, znlt, zl2, zn2_, zl3, zn3_, zl5, zn5_, zl9, zn9_, zl10, zn10_, zl16, zn16_, zl20, zn20_, zl40, zn40_, zl60, zn60_, zl76, zn76_, zl80, zn80_, zl288, zn288_, zl300, zn300_, zneg, Nat.reduceEqDiff, Nat.reduceAdd, ↓reduceIte, hF]
    exact h
theorem call_watch {d e b : Nat} {σ : zS} (x : Int32) (h : Inv b σ) (hb : b < 90000000) : Both (d + 7) 102 [.ref 0, .int x] (e + 228) 232 [.ref 214, .int x] b σ := by
  obtain ⟨c, l, t, ht, hc⟩ := h.ctx
  have h9 := hc.h9
  rcases rngC x 0 300 (by decide) (by decide) with hx | ⟨n, -, hn, rfl⟩
  · have hx : x < (0 : Int32) ∨ (300 : Int32) < x := hx
    refine both_q h (-1) none (fun Q hq => ?_) (fun σ3 f3 Q hq => ?_)
    · refine k_102_0 ?_
      rw [s_isIn0 hx, if_pos rfl]
      exact hq σ Fr.rf
    · refine k_232_0 ?_
      rw [s_in0 hx, if_pos rfl]
      exact hq _ fr12
  · generalize hv : plT c n (σ 215) = v
    have hvb : ∀ f, v f ≤ 300 := fun f => by rw [← hv]; exact Nat.le_trans (plT_le c n _ f) hn
    refine both_q h (match mst v c.1 with | none => -2 | some m => nI m) (match mst v c.1 with | none => none | some m => some (2, tv2 (nI (v m)) (nI (plQ c n (σ 215))))) (fun Q hq => ?_) (fun σ3 f3 Q hq => ?_)
    · refine k_102_0 ?_
      rw [show (Value.int 0) = .int (nI 0) from rfl, show (Value.int 300) = .int (nI 300) from rfl, s_isIn1 (Nat.zero_le n) hn (by decide), if_neg (by decide)]
      refine c_take2 hc Fr.rf (fun σ1 f1 p1 => ?_)
      refine c_playOn p1 ((tC_14 f1.cT).trans hc.h14) hn (by omega) (fun σ2 f2 e2 => ?_)
      rw [hv] at e2
      have f12' := Fr.tr f1 f2
      have g14 : σ2 14 3 = nI c.1 := (tC_14 f12'.cT).trans hc.h14
      rw [c_mostInTally g14 h9 e2 (fun f _ => by have := hvb f; omega)]
      cases hm : mst v c.1 with
      | none =>
        rw [hm] at hq
        rw [if_pos (show optI none = -1 from rfl)]
        exact hq σ2 f12'
      | some m =>
        rw [hm] at hq
        obtain ⟨g1, g2⟩ := mst_lt v c.1 m hm
        have hne : ¬ optI (some m) = -1 := by
          show ¬ nI m = -1
          rw [ne_m1 m (by omega)]; exact fun q => q
        rw [if_neg hne, show optI (some m) = nI m from rfl]
        simp (disch := omega) only [zup_eq, zput_app, zput_twice, upd_same, nI_1, za2, zA2, zm2, za3, zA3, zm3, za4, zA4, zm4, za9, zA9, zm9, za10, zA10, zm10, za18, zA18, zm18, za27, zA27, zm27, za36, zA36, zm36, za48, zA48, zm48, za288, zA288, zm288, zcl, zinT, upd_ne, upd_eq, zlt, znlt, zl2, zn2_, zl3, zn3_, zl5, zn5_, zl9, zn9_, zl10, zn10_, zl16, zn16_, zl20, zn20_, zl40, zn40_, zl60, zn60_, zl76, zn76_, zl80, zn80_, zl288, zn288_, zl300, zn300_, zneg, Nat.reduceEqDiff, Nat.reduceAdd, ↓reduceIte, e2 m g1]
        exact c_tell2 (fun σ3 f3 t3 => hq σ3 ⟨by decide, Fr.tr f12'.cT f3.sTC, t3⟩)
    · refine k_232_0 ?_
      rw [show (Value.int 0) = .int (nI 0) from rfl, show (Value.int 300) = .int (nI 300) from rfl, s_in1 (Nat.zero_le n) hn (by decide), if_neg (by decide)]
      refine r_begin2 hc f3 fr12.rT (fun σ5 f5' f5 p5 e7 e4 e5 => ?_)
      have hreq : REq (σ5 226) (σ 215) := fun i hi => e5 i (by omega)
      refine r_count0 p5 e7 hn (by omega) (fun σ6 f6 e6 e38 => ?_)
      have hsm : sm (plT c n (σ5 226)) c.1 = sm v c.1 := by rw [← hv]; exact sm_cong _ (fun f hf => plT_cong h9 n _ _ f (by omega) hreq)
      rw [hsm]
      have e6' : ∀ f, f < c.1 → σ6 227 f = nI (v f) := fun f hf => by rw [e6 f hf, plT_cong h9 n _ _ f (by omega) hreq, hv]
      rw [plQ_cong h9 n _ _ hreq] at e38
      have f36 : Fr scR σ3 σ6 := Fr.tr fr12 (Fr.tr f5 f6)
      have hsb : sm v c.1 ≤ 300 * 9 := by
        have : ∀ k, sm v k ≤ 300 * k := by
          intro k
          induction k with
          | zero => exact Nat.le_refl 0
          | succ k ih => rw [sm_1]; have := hvb k; omega
        have := this c.1
        omega
      by_cases hs : sm v c.1 = 0
      · rw [hs, if_pos (show nI 0 = 0 from rfl)]
        have hm : mst v c.1 = none := by
          cases hm : mst v c.1 with
          | none => rfl
          | some m => have := (mst_lt v c.1 m hm); have := (sm_0 c.1).mp hs m this.1; omega
        rw [hm] at hq
        exact hq σ6 f36
      · rw [if_neg (nI_ne0 (by omega) (by omega))]
        obtain ⟨m, hm⟩ := mst_some hs
        rw [hm] at hq
        have hpos : 1 ≤ c.1 := by
          have := (mst_lt v c.1 m hm).1; omega
        have g : σ6 214 1 = nI c.1 := (tR_1 f36.rT).trans ((tC_1 f3).trans hc.hR)
        have key : ∀ k', ∀ k bst, k' + k = c.1 → 1 ≤ k → ((mst v k = none ∧ bst = 0) ∨ mst v k = some bst) → Z (e + 227) 232 Q 37 [.ref 214, .int (nI n), .int (nI bst), .int (nI k)] [] σ6 := by
          intro k'
          induction k' with
          | zero =>
            intro k bst hk hk1 hb'
            have hkc : k = c.1 := by omega
            subst hkc
            have hbm : bst = m := by
              rcases hb' with ⟨q1, -⟩ | q1
              · rw [q1] at hm; cases hm
              · rw [q1] at hm; injection hm
            subst hbm
            obtain ⟨g1, g2⟩ := mst_lt v c.1 bst hm
            refine k_232_37 ?_
            simp (disch := omega) only [zup_eq, zput_app, zput_twice, upd_same, nI_1, za2, zA2, zm2, za3, zA3, zm3, za4, zA4, zm4, za9, zA9, zm9, za10, zA10, zm10, za18, zA18, zm18, za27, zA27, zm27, za36, zA36, zm36, za48, zA48, zm48, za288, zA288, zm288, zcl, zinT, upd_ne, upd_eq, zlt, znlt, zl2, zn2_, zl3, zn3_, zl5, zn5_, zl9, zn9_, zl10, zn10_, zl16, zn16_, zl20, zn20_, zl40, zn40_, zl60, zn60_, zl76, zn76_, zl80, zn80_, zl288, zn288_, zl300, zn300_, zneg, Nat.reduceEqDiff, Nat.reduceAdd, ↓reduceIte, g, e6' bst g1]
            refine r_tell2 (K := fun _ s => Q (nI bst) s) (g := fun s => s 214 38) (fun σ' f => f 214 38 (by decide)) (fun σ7 f7 t7 => ?_)
            rw [e38] at t7
            exact hq σ7 ⟨Fr.tr f36.rT f7.sTR, t7⟩
          | succ k' ih =>
            intro k bst hk hk1 hb'
            have hbk : bst < k := by
              rcases hb' with ⟨-, q1⟩ | q1
              · omega
              · exact (mst_lt v k bst q1).1
            refine k_232_37 ?_
            simp (disch := omega) only [zup_eq, zput_app, zput_twice, upd_same, nI_1, za2, zA2, zm2, za3, zA3, zm3, za4, zA4, zm4, za9, zA9, zm9, za10, zA10, zm10, za18, zA18, zm18, za27, zA27, zm27, za36, zA36, zm36, za48, zA48, zm48, za288, zA288, zm288, zcl, zinT, upd_ne, upd_eq, zlt, znlt, zl2, zn2_, zl3, zn3_, zl5, zn5_, zl9, zn9_, zl10, zn10_, zl16, zn16_, zl20, zn20_, zl40, zn40_, zl60, zn60_, zl76, zn76_, zl80, zn80_, zl288, zn288_, zl300, zn300_, zneg, Nat.reduceEqDiff, Nat.reduceAdd, ↓reduceIte, g]
            rw [e6' k (by omega), e6' bst (by omega)]
            have b1 := hvb k
            have b2 := hvb bst
            have e1 : mst v (k + 1) = match mst v k with
              | none => if 0 < v k then some k else none
              | some m => if v m < v k then some k else some m := rfl
            by_cases hp : v bst < v k
            · rw [if_pos (nI_lt hp (by omega))]
              refine ih (k + 1) k (by omega) (by omega) (Or.inr ?_)
              rw [e1]
              rcases hb' with ⟨q1, q2⟩ | q1
              · rw [q1]
                exact if_pos (by omega)
              · rw [q1]; exact if_pos hp
            · rw [if_neg (nI_nlt (by omega) (by omega))]
              refine ih (k + 1) bst (by omega) (by omega) ?_
              rw [e1]
              rcases hb' with ⟨q1, q2⟩ | q1
              · rw [q1]
                have : v bst = 0 := mst_none v k q1 bst hbk
                exact Or.inl ⟨if_neg (by omega), q2⟩
              · rw [q1]; exact Or.inr (if_neg hp)
        refine key (c.1 - 1) 1 0 (by omega) (by omega) ?_
        have e1 : mst v 1 = if 0 < v 0 then some 0 else none := rfl
        rw [e1]
        by_cases hp : 0 < v 0
        · exact Or.inr (if_pos hp)
        · exact Or.inl ⟨if_neg hp, rfl⟩
