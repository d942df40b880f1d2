/-! when, calm -/
def fyW (c : MC) (f : Nat) : Nat → Nat → (Nat → Int32) → Int32 × Int32
  | 0, _, _ => (-1, 0)
  | n + 1, k, r => if yw false r f then (nI k, r (27 + f)) else fyW c f n (k + 1) (ms c false r)
theorem fyW_cong {c : MC} {f : Nat} (h9 : c.1 ≤ 9) (hf : f < 9) : ∀ n k (r r' : Nat → Int32), REq r r' → fyW c f n k r = fyW c f n k r' := by
  intro n
  induction n with
  | zero => intro _ _ _ _; rfl
  | succ n ih => intro k r r' h; unfold fyW; rw [yw_cong h hf, h (27 + f) (by omega), ih _ _ _ (ms_cong h9 h)]
theorem nI_m1 {k : Nat} (h : k < 100000) : ¬ nI k = -1 := by
  intro q
  have : (nI k).toInt = (-1 : Int32).toInt := by rw [q]
  rw [nI_toInt (by omega), show (-1 : Int32).toInt = -1 from by decide] at this
  omega
theorem fyW_none {c : MC} {f : Nat} : ∀ n k (r : Nat → Int32), k + n < 100000 → ((fyW c f n k r).1 = -1 ↔ plT c n r f = 0) := by
  intro n
  induction n with
  | zero => intro _ _ _; exact ⟨fun _ => rfl, fun _ => rfl⟩
  | succ n ih =>
    intro k r hk
    unfold fyW plT
    cases yw false r f
    · simp only [Bool.false_eq_true, ↓reduceIte]
      rw [ih (k + 1) _ (by omega)]
      show _ ↔ 0 + _ = 0
      omega
    · simp only [↓reduceIte]
      constructor
      · intro q; exact absurd q (nI_m1 (by omega))
      · intro q
        have : b2n true = 1 := rfl
        omega
theorem c_firstYawn {d : Nat} {σ : zS} {c : MC} {l : List Int32} {t f n : Nat} {r : Nat → Int32} (h : PC c l t r σ) (hf : f < c.1) (hn : n ≤ 300) (ht : t + 300 < 1073741824) {Q : Int32 → zS → Prop}
    (hq : ∀ σ', Fr scC σ σ' → ((fyW c f n 0 r).1 = -1 ∨ σ' 31 f = (fyW c f n 0 r).2) → Q (fyW c f n 0 r).1 σ') : ZC (d + 6) 158 [.ref 0, .int (nI f), .int (nI n)] σ Q := by
  have h9 : c.1 ≤ 9 := h.2.2.1.2.1
  refine k_158_0 ?_
  have loop : ∀ m k (r : Nat → Int32) t (σ1 : zS), k + m = n → t + m < 1073741824 → Fr scC σ σ1 → PC c l t r σ1 → (∀ σ', Fr scC σ σ' → ((fyW c f m k r).1 = -1 ∨ σ' 31 f = (fyW c f m k r).2) → Q (fyW c f m k r).1 σ') → Z (d + 5) 158 Q 2 [.ref 0, .int (nI f), .int (nI n), .int (nI k)] [] σ1 := by
    intro m
    induction m with
    | zero =>
      intro k r t σ1 hk ht hf1 p1 hq
      refine k_158_2 ?_
      rw [if_neg (nI_nlt (by omega) (by omega))]
      exact hq σ1 hf1 (Or.inl rfl)
    | succ m ih =>
      intro k r t σ1 hk ht hf1 p1 hq
      refine k_158_2 ?_
      rw [if_pos (nI_lt (by omega) (by omega)), show (Value.int 0) = .int (b2i false) from rfl]
      refine c_passT p1 (by omega) (fun σ2 f2 p2 y2 m2 l2 => ?_)
      rw [s_hasN _ (by omega), y2, zb_ysS h9 hf]
      unfold fyW at hq
      have f12 := Fr.tr hf1 f2.spw
      cases hy : yw false r f
      · rw [if_pos (by decide), nI_1]
        rw [hy] at hq
        simp only [Bool.false_eq_true, ↓reduceIte] at hq
        exact ih (k + 1) _ (t + 1) σ2 (by omega) (by omega) f12 p2 hq
      · rw [if_neg (by decide)]
        rw [hy] at hq
        simp only [↓reduceIte] at hq
        exact hq σ2 f12 (Or.inr (l2 f hf hy))
  exact loop n 0 r t σ (by omega) (by omega) Fr.rf h hq
theorem call_when {d e b : Nat} {σ : zS} (x : Int32) (h : Inv b σ) (hb : b < 90000000) : Both (d + 7) 103 [.ref 0, .int x] (e + 228) 233 [.ref 214, .int x] b σ := by
  obtain ⟨c, l, t, ht, hc⟩ := h.ctx
  have h9 := hc.h9
  rcases faceC x h9 with hx | ⟨f, hf, rfl⟩
  · refine both_q h (-1) none (fun Q hq => ?_) (fun σ3 f3 Q hq => ?_)
    · refine k_103_0 ?_
      rw [c_isFace0 hc.h14 hx, if_pos rfl]
      exact hq σ Fr.rf
    · refine k_233_0 ?_
      have hR : (zup σ3 214 12 0) 214 1 = nI c.1 := ((fr12 (σ := σ3)) 214 1 (by decide)).trans ((tC_1 f3).trans hc.hR)
      rw [r_isFace0 hR h9 hx, if_pos rfl]
      exact hq _ fr12
  · generalize hR : fyW c f 300 0 (σ 215) = R
    refine both_q h (if R.1 = -1 then -2 else R.1) (if R.1 = -1 then none else some (1, tv1 R.2)) (fun Q hq => ?_) (fun σ3 f3 Q hq => ?_)
    · refine k_103_0 ?_
      rw [c_isFace1 hc.h14 h9 hf, if_neg (by decide)]
      refine c_take2 hc Fr.rf (fun σ1 f1 p1 => ?_)
      refine c_firstYawn (n := 300) p1 hf (by decide) (by omega) (fun σ2 f2 e2 => ?_)
      rw [hR] at e2 ⊢
      have f12' := Fr.tr f1 f2
      by_cases hz : R.1 = -1
      · rw [if_pos hz]; rw [if_pos hz, if_pos hz] at hq
        exact hq σ2 f12'
      · rw [if_neg hz]; rw [if_neg hz, if_neg hz] at hq
        simp (disch := omega) only [zup_eq, zput_app, zput_twice, upd_same, nI_1, za2, zA2, zm2, za3, zA3, zm3, za4, zA4, zm4, za9, zA9, zm9, za10, zA10, zm10, za18, zA18, zm18, za27, zA27, zm27, za36, zA36, zm36, za48, zA48, zm48, za288, zA288, zm288, zcl, zinT, upd_ne, upd_eq, zlt, znlt, zl2, zn2_, zl3, zn3_, zl5, zn5_, zl9, zn9_, zl10, zn10_, zl16, zn16_, zl20, zn20_, zl40, zn40_, zl60, zn60_, zl76, zn76_, zl80, zn80_, zl288, zn288_, zl300, zn300_, zneg, Nat.reduceEqDiff, Nat.reduceAdd, ↓reduceIte]
        rw [e2.resolve_left hz]
        exact c_tell1 (fun σ3 f3 t3 => hq σ3 ⟨by decide, Fr.tr f12'.cT f3.sTC, t3⟩)
    · refine k_233_0 ?_
      have hR1 : (zup σ3 214 12 0) 214 1 = nI c.1 := ((fr12 (σ := σ3)) 214 1 (by decide)).trans ((tC_1 f3).trans hc.hR)
      rw [r_isFace1 hR1 h9 hf, if_neg (by decide)]
      refine r_begin2 hc f3 fr12.rT (fun σ5 f5' f5 p5 e7 e4 e5 => ?_)
      have hreq : REq (σ5 226) (σ 215) := fun i hi => e5 i (by omega)
      have loop : ∀ m k t (σ6 : zS), k + m = 300 → t + m < 100000000 → Fr scR σ3 σ6 → σ6 214 7 = 0 → PF 226 c l t σ6 → fyW c f m k (σ6 226) = R → ∀ w, Z (e + 227) 233 Q 21 [.ref 214, .int (nI f), .int (nI k), w] [] σ6 := by
        intro m
        induction m with
        | zero =>
          intro k t σ6 hk ht f6 k7 p6 hRR w
          refine k_233_21 ?_
          rw [if_neg (show ¬ nI k < 300 from nI_nlt (a := k) (b := 300) (by omega) (by omega))]
          have hz : R.1 = -1 := by rw [← hRR]; rfl
          rw [if_pos hz, if_pos hz] at hq
          exact hq σ6 f6
        | succ m ih =>
          intro k t σ6 hk ht f6 k7 p6 hRR w
          refine k_233_21 ?_
          rw [if_pos (show nI k < 300 from nI_lt (b := 300) (by omega) (by decide))]
          simp (disch := omega) only [zup_eq, zput_app, zput_twice, upd_same, nI_1, za2, zA2, zm2, za3, zA3, zm3, za4, zA4, zm4, za9, zA9, zm9, za10, zA10, zm10, za18, zA18, zm18, za27, zA27, zm27, za36, zA36, zm36, za48, zA48, zm48, za288, zA288, zm288, zcl, zinT, upd_ne, upd_eq, zlt, znlt, zl2, zn2_, zl3, zn3_, zl5, zn5_, zl9, zn9_, zl10, zn10_, zl16, zn16_, zl20, zn20_, zl40, zn40_, zl60, zn60_, zl76, zn76_, zl80, zn80_, zl288, zn288_, zl300, zn300_, zneg, Nat.reduceEqDiff, Nat.reduceAdd, ↓reduceIte]
          refine r_passT226 (fr := false) p6 k7 (by omega) (fun σ7 f7 p7 r7 y7 g7 m7 => ?_)
          rw [s_hasR _ (by omega), y7, zb_ysS h9 hf]
          unfold fyW at hRR
          have f67 := Fr.tr f6 f7.spR
          cases hy : yw false (σ6 226) f
          · rw [if_pos (by decide)]
            rw [hy] at hRR
            simp only [Bool.false_eq_true, ↓reduceIte] at hRR
            rw [← r7] at hRR
            exact ih (k + 1) (t + 1) σ7 (by omega) (by omega) f67 ((f7 214 7 (by decide)).trans k7) p7 hRR _
          · rw [if_neg (by decide)]
            rw [hy] at hRR
            simp only [↓reduceIte] at hRR
            have hz : ¬ R.1 = -1 := by rw [← hRR]; exact nI_m1 (by omega)
            rw [if_neg hz, if_neg hz] at hq
            have e1 : R.1 = nI k := by rw [← hRR]
            have e2 : R.2 = σ6 226 (27 + f) := by rw [← hRR]
            rw [e1, e2] at hq
            exact r_tell1 (fun σ8 f8 t8 => hq σ8 ⟨Fr.tr f67.rT f8.sTR, t8⟩)
      exact loop 300 0 t σ5 (by decide) (by omega) (Fr.tr fr12 f5) e7 p5 (by rw [fyW_cong h9 (by omega) 300 0 _ _ hreq]; exact hR) _
/-! tired otherwise -/
def trd (r : Nat → Int32) (f : Nat) (x : Int32) : Nat → Int32 := upd r f (mx0 (mn9 (r f + x)))
theorem mm_rng (y : Int32) : ∃ n, n ≤ 9 ∧ mx0 (mn9 y) = nI n := by
  have e1 : ∀ a b : Int32, a < b ↔ a.toInt < b.toInt := fun a b => Int32.lt_iff_toInt_lt
  unfold mx0 mn9
  by_cases h9 : y < 9
  · rw [if_pos h9]
    by_cases h0 : 0 < y
    · rw [if_pos h0]
      rw [e1, show (9 : Int32).toInt = 9 from by decide] at h9
      rw [e1, show (0 : Int32).toInt = 0 from by decide] at h0
      obtain ⟨j, hj, e⟩ := nI_of (x := y) (by rw [e1, show (0 : Int32).toInt = 0 from by decide]; omega)
      rw [e, nI_toInt hj] at h9
      exact ⟨j, by omega, e⟩
    · rw [if_neg h0]; exact ⟨0, by decide, rfl⟩
  · rw [if_neg h9]; exact ⟨9, by decide, rfl⟩
theorem trd_cong {r r' : Nat → Int32} (h : REq r r') {f : Nat} (hf : f < 9) (x : Int32) : REq (trd r f x) (trd r' f x) := by
  intro i hi
  unfold trd
  simp only [upd_app]
  rw [h i hi, h f (by omega)]
theorem trd_WR {F t f : Nat} {r : Nat → Int32} (h9 : F ≤ 9) (hf : f < 9) (x : Int32) (h : WR F t r) : WR F t (trd r f x) := by
  obtain ⟨h1, h2, h3, y, h4, h5⟩ := h
  unfold trd
  refine ⟨?_, fun g hg => ?_, fun g hg => ?_, y, h4, ?_⟩
  · rw [upd_ne (by omega)]; exact h1
  · by_cases hgf : g = f
    · rw [hgf, upd_eq]; exact mm_rng _
    · rw [upd_ne hgf]; exact h2 g hg
  · rw [upd_ne (by omega)]; exact h3 g hg
  · rw [upd_ne (by omega)]; exact h5
theorem c_tireT {d : Nat} {σ : zS} {c : MC} {l : List Int32} {t f : Nat} {r : Nat → Int32} (x : Int32) (h : PC c l t r σ) (hf : f < c.1) {Q : Int32 → zS → Prop} (hq : ∀ σ', Fr scC σ σ' → PC c l t (trd r f x) σ' → Q 0 σ') : ZC (d + 2) 33 [.ref 26, .int (nI f), .int x] σ Q := by
  have h9 := h.2.2.1.2.1
  refine c_tire23 h.2.2.2.1 h9 hf x (fun σ' f1 c1 => ?_)
  exact hq σ' (fr_pm26 f1) (h.row f1 c1 (trd_WR h9 (by omega) x h.2.2.2.2))
theorem c_tire0 {d : Nat} {σ : zS} {x : Int32} (Q : Int32 → zS → Prop) : ZC (d + 2) 33 [.ref 26, .int (-1), .int x] σ Q = Q 0 σ :=
  s_of (fun Q h => k_33_0_i26 (by rw [if_pos (by decide)]; exact h)) Q
theorem r_more' {d : Nat} {σ : zS} (x y : Int32) (Q : Int32 → zS → Prop) : ZC (d + 2) 246 [.int x, .int y] σ Q = Q (mx0 (mn9 (x + y))) σ := r_more x y Q
def clW (c : MC) (r : Nat → Int32) (f n : Nat) : Nat → Nat → Int32
  | 0, _ => -2
  | m + 1, k => if plT c n (trd r f (-(nI k))) f = 0 then nI k else clW c r f n m (k + 1)
theorem call_calm {d e b : Nat} {σ : zS} (x y : Int32) (h : Inv b σ) (hb : b < 90000000) : Both (d + 7) 113 [.ref 0, .int x, .int y] (e + 228) 251 [.ref 214, .int x, .int y] b σ := by
  obtain ⟨c, l, t, ht, hc⟩ := h.ctx
  have h9 := hc.h9
  have hR3 : ∀ σ3, Fr tC σ σ3 → (zup σ3 214 12 0) 214 1 = nI c.1 := fun σ3 f3 => ((fr12 (σ := σ3)) 214 1 (by decide)).trans ((tC_1 f3).trans hc.hR)
  rcases faceC x h9 with hx | ⟨f, hf, rfl⟩
  · refine both_q h (-1) none (fun Q hq => ?_) (fun σ3 f3 Q hq => ?_)
    · refine k_113_0 ?_
      rw [c_isFace0 hc.h14 hx, if_pos rfl]
      exact hq σ Fr.rf
    · refine k_251_0 ?_
      rw [r_isFace0 (hR3 σ3 f3) h9 hx, if_pos rfl]
      exact hq _ fr12
  rcases rngC y 1 300 (by decide) (by decide) with hy | ⟨n, hn1, hn, rfl⟩
  · have hy : y < (1 : Int32) ∨ (300 : Int32) < y := hy
    refine both_q h (-1) none (fun Q hq => ?_) (fun σ3 f3 Q hq => ?_)
    · refine k_113_0 ?_
      rw [c_isFace1 hc.h14 h9 hf, if_neg (by decide), s_isIn0 hy, if_pos rfl]
      exact hq σ Fr.rf
    · refine k_251_0 ?_
      rw [r_isFace1 (hR3 σ3 f3) h9 hf, if_neg (by decide), r_isMore0 hy, if_pos rfl]
      exact hq _ fr12
  refine both_q h (clW c (σ 215) f n 10 0) none (fun Q hq => ?_) (fun σ3 f3 Q hq => ?_)
  · refine k_113_0 ?_
    rw [c_isFace1 hc.h14 h9 hf, if_neg (by decide), show (Value.int 1) = .int (nI 1) from rfl, show (Value.int 300) = .int (nI 300) from rfl, s_isIn1 hn1 hn (by decide), if_neg (by decide)]
    have loop : ∀ m k (σ1 : zS), k + m = 10 → Fr scC σ σ1 → (∀ σ', Fr scC σ σ' → Q (clW c (σ 215) f n m k) σ') → Z (d + 6) 113 Q 23 [.ref 0, .int (nI f), .int (nI n), .int (nI k)] [] σ1 := by
      intro m
      induction m with
      | zero =>
        intro k σ1 hk f1 hq
        refine k_113_23 ?_
        rw [if_pos (show (9 : Int32) < nI k from nI_lt (a := 9) (by omega) (by omega))]
        exact hq σ1 f1
      | succ m ih =>
        intro k σ1 hk f1 hq
        refine k_113_23 ?_
        rw [if_neg (show ¬ (9 : Int32) < nI k from nI_nlt (a := 9) (b := k) (by omega) (by omega))]
        refine c_take2 hc f1.cT (fun σ2 f2 p2 => ?_)
        refine c_tireT (-(nI k)) p2 hf (fun σ3 f3 p3 => ?_)
        refine c_firstYawn p3 hf hn (by omega) (fun σ4 f4 e4 => ?_)
        have f14 := Fr.tr f1 (Fr.tr f2 (Fr.tr f3 f4))
        unfold clW at hq
        have hiff := fyW_none (c := c) (f := f) n 0 (trd (σ 215) f (-(nI k))) (by omega)
        by_cases hz : plT c n (trd (σ 215) f (-(nI k))) f = 0
        · rw [if_pos (hiff.mpr hz)]
          rw [if_pos hz] at hq
          exact hq σ4 f14
        · rw [if_neg (fun q => hz (hiff.mp q)), nI_1]
          rw [if_neg hz] at hq
          exact ih (k + 1) σ4 (by omega) f14 hq
    exact loop 10 0 σ (by decide) Fr.rf (fun σ' f' => hq σ' f')
  · refine k_251_0 ?_
    rw [r_isFace1 (hR3 σ3 f3) h9 hf, if_neg (by decide), r_isMore1 hn1 hn, if_neg (by decide)]
    have loop : ∀ m k (σ1 : zS), k + m = 10 → Fr scR σ3 σ1 → (∀ σ', Fr scR σ3 σ' → Q (clW c (σ 215) f n m k) σ') → Z (e + 227) 251 Q 24 [.ref 214, .int (nI f), .int (nI n), .int (nI k)] [] σ1 := by
      intro m
      induction m with
      | zero =>
        intro k σ1 hk f1 hq
        refine k_251_24 ?_
        rw [if_pos (show (9 : Int32) < nI k from nI_lt (a := 9) (by omega) (by omega))]
        exact hq σ1 f1
      | succ m ih =>
        intro k σ1 hk f1 hq
        refine k_251_24 ?_
        rw [if_neg (show ¬ (9 : Int32) < nI k from nI_nlt (a := 9) (b := k) (by omega) (by omega))]
        refine r_begin2 hc f3 f1.rT (fun σ5 f5' f5 p5 e7 e4 e5 => ?_)
        have hreq : REq (σ5 226) (σ 215) := fun i hi => e5 i (by omega)
        rw [r_more']
        simp (disch := omega) only [zup_eq, zput_app, zput_twice, upd_same, nI_1, za2, zA2, zm2, za3, zA3, zm3, za4, zA4, zm4, za9, zA9, zm9, za10, zA10, zm10, za18, zA18, zm18, za27, zA27, zm27, za36, zA36, zm36, za48, zA48, zm48, za288, zA288, zm288, zcl, zinT, upd_ne, upd_eq, zlt, znlt, zl2, zn2_, zl3, zn3_, zl5, zn5_, zl9, zn9_, zl10, zn10_, zl16, zn16_, zl20, zn20_, zl40, zn40_, zl60, zn60_, zl76, zn76_, zl80, zn80_, zl288, zn288_, zl300, zn300_, zneg, Nat.reduceEqDiff, Nat.reduceAdd, ↓reduceIte]
        have ht' : REq (trd (σ5 226) f (-(nI k))) (trd (σ 215) f (-(nI k))) := trd_cong hreq (by omega) _
        have e1 : upd (σ5 226) f (mx0 (mn9 (σ5 226 f + -(nI k)))) = trd (σ5 226) f (-(nI k)) := rfl
        rw [e1]
        have p6 : PF 226 c l t (zput σ5 226 (trd (σ5 226) f (-(nI k)))) := p5.set (trd_WR h9 (by omega) _ p5.2.2.2.2.2.2)
        have k6 : (zput σ5 226 (trd (σ5 226) f (-(nI k)))) 214 7 = 0 := by simp only [zput_app, Nat.reduceEqDiff, ↓reduceIte]; exact e7
        refine r_count0 p6 k6 hn (by omega) (fun σ6 f6 e6 e38 => ?_)
        rw [e226] at e6
        have f16 := Fr.tr f1 (Fr.tr f5 (Fr.tr fr226 f6))
        rw [e6 f hf, plT_cong h9 n _ _ f (by omega) ht']
        have hle := plT_le c n (trd (σ 215) f (-(nI k))) f
        unfold clW at hq
        by_cases hz : plT c n (trd (σ 215) f (-(nI k))) f = 0
        · rw [if_pos (by rw [hz]; rfl)]
          rw [if_pos hz] at hq
          exact hq σ6 f16
        · rw [if_neg (nI_ne0 (by omega) (by omega))]
          rw [if_neg hz] at hq
          exact ih (k + 1) σ6 (by omega) f16 hq
    exact loop 10 0 _ (by decide) fr12 (fun σ' f' => hq σ' f')
