/-! how often each yawns -/
def b2n (b : Bool) : Nat := if b then 1 else 0
def plT (c : MC) : Nat → (Nat → Int32) → Nat → Nat
  | 0, _, _ => 0
  | n + 1, r, f => b2n (yw false r f) + plT c n (ms c false r) f
def plQ (c : MC) : Nat → (Nat → Int32) → Nat
  | 0, _ => 0
  | n + 1, r => b2n (decide (ysS c false r = 0)) + plQ c n (ms c false r)
def sm (v : Nat → Nat) : Nat → Nat
  | 0 => 0
  | n + 1 => sm v n + v n
theorem sm_1 (v : Nat → Nat) (n : Nat) : sm v (n + 1) = sm v n + v n := rfl
theorem sm_add (v w : Nat → Nat) : ∀ n, sm (fun f => v f + w f) n = sm v n + sm w n := by
  intro n
  induction n with
  | zero => rfl
  | succ n ih => rw [sm_1, sm_1, sm_1, ih]; omega
theorem sm_cong {v w : Nat → Nat} : ∀ n, (∀ f, f < n → v f = w f) → sm v n = sm w n := by
  intro n
  induction n with
  | zero => intro _; rfl
  | succ n ih => intro h; rw [sm_1, sm_1, ih (fun f hf => h f (by omega)), h n (by omega)]
theorem plT_cong {c : MC} (h9 : c.1 ≤ 9) : ∀ n (r r' : Nat → Int32) f, f < 9 → REq r r' → plT c n r f = plT c n r' f := by
  intro n
  induction n with
  | zero => intro _ _ _ _ _; rfl
  | succ n ih => intro r r' f hf h; unfold plT; rw [yw_cong h hf, ih _ _ f hf (ms_cong h9 h)]
theorem plQ_cong {c : MC} (h9 : c.1 ≤ 9) : ∀ n (r r' : Nat → Int32), REq r r' → plQ c n r = plQ c n r' := by
  intro n
  induction n with
  | zero => intro _ _ _; rfl
  | succ n ih => intro r r' h; unfold plQ; rw [ysS_cong h9 h, ih _ _ (ms_cong h9 h)]
theorem plT_le (c : MC) : ∀ n (r : Nat → Int32) f, plT c n r f ≤ n := by
  intro n
  induction n with
  | zero => intro _ _; exact Nat.le_refl 0
  | succ n ih => intro r f; unfold plT; have := ih (ms c false r) f; unfold b2n; split <;> omega
theorem zb_ysS {c : MC} {fr : Bool} {r : Nat → Int32} (h9 : c.1 ≤ 9) {f : Nat} (hf : f < c.1) : zb (ysS c fr r) f = yw fr r f := by
  unfold ysS
  rw [zb_bs (by omega) (by omega)]; simp [hf]
theorem s_fill0 {d : Nat} {σ : zS} {Q : Int32 → zS → Prop} (h : ∀ σ', Fr (fun o _ => decide (o = 191)) σ σ' → (∀ i, i < 10 → σ' 191 i = 0) → Q 0 σ') : ZC (d + 1) 5 [.ref 191, .int 0] σ Q := by
  refine k_5_0_i191 ?_
  have hz := z_for (F := 10) (P := fun k => ∀ σ1, Fr (fun o _ => decide (o = 191)) σ σ1 → (∀ i, i < k → σ1 191 i = 0) → Z d 5 Q 5 [.ref 191, .int 0, .int (nI k), .int (nI 10)] [] σ1) (fun k hk ih => ?_) ?_
  · exact hz σ Fr.rf (fun i hi => absurd hi (Nat.not_lt_zero i))
  · intro σ1 f1 e1
    refine k_5_5_i191 ?_
    simp (disch := omega) only [zup_eq, zput_app, zput_twice, upd_same, nI_1, za2, zA2, zm2, za3, zA3, zm3, za4, zA4, zm4, za9, zA9, zm9, za10, zA10, zm10, za18, zA18, zm18, za27, zA27, zm27, za36, zA36, zm36, za48, zA48, zm48, za288, zA288, zm288, zcl, zinT, upd_ne, upd_eq, zlt, znlt, zl2, zn2_, zl3, zn3_, zl5, zn5_, zl9, zn9_, zl10, zn10_, zl16, zn16_, zl20, zn20_, zl40, zn40_, zl60, zn60_, zl76, zn76_, zl80, zn80_, zl288, zn288_, zl300, zn300_, zneg, Nat.reduceEqDiff, Nat.reduceAdd, ↓reduceIte]
    refine ih _ (Fr.tr f1 (Fr.put (fun i q => by simp at q))) (fun i hi => ?_)
    simp only [zput_app, ↓reduceIte]
    by_cases h2 : i = k
    · rw [h2, upd_eq]
    · rw [upd_ne h2]; exact e1 i (by omega)
  · intro σ1 f1 e1
    refine k_5_5_i191 ?_
    rw [if_neg (by decide)]
    exact h σ1 f1 e1
theorem c_playOn {d : Nat} {σ : zS} {c : MC} {l : List Int32} {t n : Nat} {r : Nat → Int32} (h : PC c l t r σ) (h14 : σ 14 3 = nI c.1) (hn : n ≤ 300) (ht : t + 300 < 1073741824) {Q : Int32 → zS → Prop}
    (hq : ∀ σ', Fr scC σ σ' → (∀ f, f < c.1 → σ' 191 f = nI (plT c n r f)) → Q (nI (plQ c n r)) σ') : ZC (d + 6) 154 [.ref 0, .int (nI n)] σ Q := by
  have h9 : c.1 ≤ 9 := h.2.2.1.2.1
  refine k_154_0 ?_
  refine s_fill0 (fun σ0 f0 z0 => ?_)
  have p0 : PC c l t r σ0 := PC.fr h f0 (fun o i q => by simp; omega)
  have g0 : Fr scC σ σ0 := fr_scC f0 (fun o i q => by have := of_decide_eq_true q; subst this; exact sc_191 i)
  have loop : ∀ m k (r : Nat → Int32) (T : Nat → Nat) (q t : Nat) (σ1 : zS), k + m = n → t + m < 1073741824 → Fr scC σ σ1 → PC c l t r σ1 → (∀ f, f < c.1 → σ1 191 f = nI (T f)) → (∀ σ', Fr scC σ σ' → (∀ f, f < c.1 → σ' 191 f = nI (T f + plT c m r f)) → Q (nI (q + plQ c m r)) σ') → ∀ w4, Z (d + 5) 154 Q 12 [.ref 0, .int (nI n), .int (nI q), .int (nI k), w4] [] σ1 := by
    intro m
    induction m with
    | zero =>
      intro k r T q t σ1 hk ht hf p1 e1 hq w4
      refine k_154_12 ?_
      rw [if_neg (nI_nlt (by omega) (by omega))]
      exact hq σ1 hf (fun f hf' => e1 f hf')
    | succ m ih =>
      intro k r T q t σ1 hk ht hf p1 e1 hq w4
      refine k_154_12 ?_
      rw [if_pos (nI_lt (by omega) (by omega)), show (Value.int 0) = .int (b2i false) from rfl]
      refine c_passT p1 (by omega) (fun σ2 f2 p2 y2 m2 l2 => ?_)
      have inner : ∀ q', q' = q + b2n (decide (ysS c false r = 0)) → Z (d + 5) 154 Q 46 [.ref 0, .int (nI n), .int (nI q'), .int (nI k), .int (nI 0)] [] σ2 := by
        intro q' hq'
        refine z_for (F := c.1) (P := fun f => ∀ σ3, Fr (fun o _ => decide (o = 191)) σ2 σ3 → (∀ g, g < c.1 → σ3 191 g = nI (T g + if g < f then b2n (yw false r g) else 0)) → Z (d + 5) 154 Q 46 [.ref 0, .int (nI n), .int (nI q'), .int (nI k), .int (nI f)] [] σ3) (fun f hff ihf => ?_) ?_ σ2 Fr.rf ?_
        · intro σ3 f3 e3
          refine k_154_46 ?_
          have g14 : σ3 14 3 = nI c.1 := (f3 14 3 (by decide)).trans ((f2 14 3 (by decide)).trans ((hf 14 3 (by decide)).trans h14))
          have g23 : σ3 23 4 = ysS c false r := (f3 23 4 (by decide)).trans y2
          simp (disch := omega) only [zup_eq, zput_app, zput_twice, upd_same, nI_1, za2, zA2, zm2, za3, zA3, zm3, za4, zA4, zm4, za9, zA9, zm9, za10, zA10, zm10, za18, zA18, zm18, za27, zA27, zm27, za36, zA36, zm36, za48, zA48, zm48, za288, zA288, zm288, zcl, zinT, upd_ne, upd_eq, zlt, znlt, zl2, zn2_, zl3, zn3_, zl5, zn5_, zl9, zn9_, zl10, zn10_, zl16, zn16_, zl20, zn20_, zl40, zn40_, zl60, zn60_, zl76, zn76_, zl80, zn80_, zl288, zn288_, zl300, zn300_, zneg, Nat.reduceEqDiff, Nat.reduceAdd, ↓reduceIte, g14, g23, zb_sh, e3 f hff, zb_ysS h9 hff]
          refine ihf _ (Fr.tr f3 (Fr.put (fun i q => by simp at q))) (fun g hg => ?_)
          simp only [zput_app, ↓reduceIte]
          by_cases hgf : g = f
          · rw [hgf, upd_eq, if_neg (Nat.lt_irrefl f), if_pos (Nat.lt_succ_self f)]
            cases yw false r f
            · show nI (T f + 0) + 0 = _; rw [Int32.add_zero]; rfl
            · show nI (T f + 0) + 1 = _; rw [nI_1]; rfl
          · rw [upd_ne hgf, e3 g hg]
            by_cases hlt : g < f
            · rw [if_pos hlt, if_pos (by omega)]
            · rw [if_neg hlt, if_neg (by omega)]
        · intro σ3 f3 e3
          refine k_154_46 ?_
          have g14 : σ3 14 3 = nI c.1 := (f3 14 3 (by decide)).trans ((f2 14 3 (by decide)).trans ((hf 14 3 (by decide)).trans h14))
          simp (disch := omega) only [zup_eq, zput_app, zput_twice, upd_same, nI_1, za2, zA2, zm2, za3, zA3, zm3, za4, zA4, zm4, za9, zA9, zm9, za10, zA10, zm10, za18, zA18, zm18, za27, zA27, zm27, za36, zA36, zm36, za48, zA48, zm48, za288, zA288, zm288, zcl, zinT, upd_ne, upd_eq, zlt, znlt, zl2, zn2_, zl3, zn3_, zl5, zn5_, zl9, zn9_, zl10, zn10_, zl16, zn16_, zl20, zn20_, zl40, zn40_, zl60, zn60_, zl76, zn76_, zl80, zn80_, zl288, zn288_, zl300, zn300_, zneg, Nat.reduceEqDiff, Nat.reduceAdd, ↓reduceIte, g14]
          have g3 : Fr scC σ2 σ3 := fr_scC f3 (fun o i q => by have := of_decide_eq_true q; subst this; exact sc_191 i)
          refine ih (k + 1) (ms c false r) (fun g => T g + b2n (yw false r g)) q' (t + 1) σ3 (by omega) (by omega) (Fr.tr hf (Fr.tr f2.spw g3)) (PC.fr p2 f3 (fun o i q => by simp; omega)) (fun g hg => by rw [e3 g hg, if_pos hg]) ?_ _
          intro σ' h1 h2
          have := hq σ' h1 (fun f hf' => by
            rw [h2 f hf']
            congr 1
            show T f + b2n (yw false r f) + plT c m (ms c false r) f = T f + (b2n (yw false r f) + plT c m (ms c false r) f)
            omega)
          have e : q' + plQ c m (ms c false r) = q + plQ c (m + 1) r := by
            rw [hq']
            show q + b2n (decide (ysS c false r = 0)) + plQ c m (ms c false r) = q + (b2n (decide (ysS c false r = 0)) + plQ c m (ms c false r))
            omega
          rw [e]
          exact this
        · intro g hg
          rw [if_neg (Nat.not_lt_zero g)]
          exact (f2 191 g (by simp [pw])).trans (e1 g hg)
      rw [y2]
      by_cases hz : ysS c false r = 0
      · rw [if_pos hz, nI_1]
        exact inner (q + 1) (by rw [decide_eq_true hz]; rfl)
      · rw [if_neg hz, Int32.add_zero]
        exact inner q (by rw [decide_eq_false hz]; rfl)
  refine loop n 0 r (fun _ => 0) 0 t σ0 (by omega) (by omega) g0 p0 (fun f hf => z0 f (by omega)) (fun σ' h1 h2 => ?_) _
  rw [Nat.zero_add]
  exact hq σ' h1 (fun f hf => by rw [h2 f hf, Nat.zero_add])
theorem sr_38 {σ : zS} {x : Int32} : Fr scR σ (zup σ 214 38 x) := Fr.up (by decide)
theorem r_count0 {d : Nat} {σ : zS} {c : MC} {l : List Int32} {t n : Nat} (h : PF 226 c l t σ) (h7 : σ 214 7 = 0) (hn : n ≤ 300) (ht : t + 300 < 100000000) {Q : Int32 → zS → Prop}
    (hq : ∀ σ', Fr scR σ σ' → (∀ f, f < c.1 → σ' 227 f = nI (plT c n (σ 226) f)) → σ' 214 38 = nI (plQ c n (σ 226)) → Q (nI (sm (plT c n (σ 226)) c.1)) σ') : ZC (d + 227) 230 [.ref 214, .int (nI n)] σ Q := by
  have h9 : c.1 ≤ 9 := h.2.2.2.2.2.1.2.2.2
  refine k_230_0 ?_
  have loop : ∀ m k (T : Nat → Nat) (q s t : Nat) (σ1 : zS), k + m = n → t + m < 100000000 → Fr scR σ σ1 → PF 226 c l t σ1 → (∀ f, f < c.1 → σ1 227 f = nI (T f)) → σ1 214 38 = nI q → (∀ σ', Fr scR σ σ' → (∀ f, f < c.1 → σ' 227 f = nI (T f + plT c m (σ1 226) f)) → σ' 214 38 = nI (q + plQ c m (σ1 226)) → Q (nI (s + sm (plT c m (σ1 226)) c.1)) σ') → ∀ w4, Z (d + 226) 230 Q 30 [.ref 214, .int (nI n), .int (nI s), .int (nI k), w4] [] σ1 := by
    intro m
    induction m with
    | zero =>
      intro k T q s t σ1 hk ht hf p1 e1 e38 hq w4
      refine k_230_30 ?_
      rw [if_neg (nI_nlt (by omega) (by omega))]
      have := hq σ1 hf (fun f hf' => e1 f hf') e38
      rw [show sm (plT c 0 (σ1 226)) c.1 = 0 from by
        have : ∀ n, sm (plT c 0 (σ1 226)) n = 0 := by
          intro n
          induction n with
          | zero => rfl
          | succ n ih => rw [sm_1, ih]; rfl
        exact this _, Nat.add_zero] at this
      exact this
    | succ m ih =>
      intro k T q s t σ1 hk ht hf p1 e1 e38 hq w4
      refine k_230_30 ?_
      rw [if_pos (nI_lt (by omega) (by omega))]
      generalize hr : σ1 226 = r at hq
      refine r_passT226 (fr := false) p1 ((hf 214 7 (by decide)).trans h7) (by omega) (fun σ2 f2 p2 r2 y2 k2 m2 => ?_)
      rw [hr] at r2 y2
      have inner : ∀ q' (σ2' : zS), q' = q + b2n (decide (ysS c false r = 0)) → Fr (fun o i => decide (o = 214 ∧ i = 38)) σ2 σ2' → σ2' 214 38 = nI q' → Z (d + 226) 230 Q 67 [.ref 214, .int (nI n), .int (nI s), .int (nI k), .int (nI 0)] [] σ2' := by
        intro q' σ2' hq' f2' e38'
        have key : ∀ f, f ≤ c.1 → ∀ s' (σ3 : zS), Fr (fun o _ => decide (o = 227)) σ2' σ3 → (∀ g, g < c.1 → σ3 227 g = nI (T g + if g < f then b2n (yw false r g) else 0)) → s' = s + sm (fun g => b2n (yw false r g)) f → Z (d + 226) 230 Q 67 [.ref 214, .int (nI n), .int (nI s'), .int (nI k), .int (nI f)] [] σ3 := by
          intro f hfle
          have hm : ∀ m', m' + f = c.1 → ∀ s' (σ3 : zS), Fr (fun o _ => decide (o = 227)) σ2' σ3 → (∀ g, g < c.1 → σ3 227 g = nI (T g + if g < f then b2n (yw false r g) else 0)) → s' = s + sm (fun g => b2n (yw false r g)) f → Z (d + 226) 230 Q 67 [.ref 214, .int (nI n), .int (nI s'), .int (nI k), .int (nI f)] [] σ3 := by
            intro m'
            induction m' generalizing f with
            | zero =>
              intro hmf s' σ3 f3 e3 hs'
              refine k_230_67 ?_
              have q1 := p2.2.2.2.2.2.1.1
              have t1 : σ3 214 1 = nI c.1 := (f3 214 1 (by decide)).trans ((f2' 214 1 (by decide)).trans q1)
              simp (disch := omega) only [t1, znlt, nI_1, ↓reduceIte]
              have hfc : f = c.1 := by omega
              have h226 : σ3 226 = ms c false r := by
                rw [← r2]; exact (funext fun i => f3 226 i (by simp)).trans (funext fun i => f2' 226 i (by simp))
              have p3 : PF 226 c l (t + 1) σ3 := PFto (PFto p2 f2' (fun o i q => by simp; omega)) f3 (fun o i q => by simp; omega)
              have fr3 : Fr scR σ σ3 := Fr.tr hf (Fr.tr f2.spR (Fr.tr (fr_scR f2' (fun o i q => by
                obtain ⟨rfl, rfl⟩ := of_decide_eq_true q; rfl)) (fr_scR f3 (fun o i q => by
                have := of_decide_eq_true q; subst this; exact sr_hi (by decide)))))
              refine ih (k + 1) (fun g => T g + b2n (yw false r g)) q' s' (t + 1) σ3 (by omega) (by omega) fr3 p3 (fun g hg => by rw [e3 g hg, if_pos (by omega)]) ((f3 214 38 (by decide)).trans e38') ?_ _
              rw [h226]
              intro σ' h1 h2 h3
              have := hq σ' h1 (fun f hf' => by
                rw [h2 f hf']
                congr 1
                show T f + b2n (yw false r f) + plT c m (ms c false r) f = T f + (b2n (yw false r f) + plT c m (ms c false r) f)
                omega) (by
                rw [h3, hq']
                congr 1
                show q + b2n (decide (ysS c false r = 0)) + plQ c m (ms c false r) = q + (b2n (decide (ysS c false r = 0)) + plQ c m (ms c false r))
                omega)
              have e : s' + sm (plT c m (ms c false r)) c.1 = s + sm (plT c (m + 1) r) c.1 := by
                have e1 : sm (plT c (m + 1) r) c.1 = sm (fun g => b2n (yw false r g) + plT c m (ms c false r) g) c.1 := rfl
                rw [e1, sm_add, hs', hfc]; omega
              rw [e]
              exact this
            | succ m' ih' =>
              intro hmf s' σ3 f3 e3 hs'
              refine k_230_67 ?_
              have q1 := p2.2.2.2.2.2.1.1
              have t1 : σ3 214 1 = nI c.1 := (f3 214 1 (by decide)).trans ((f2' 214 1 (by decide)).trans q1)
              have t26 : σ3 214 26 = ysS c false r := (f3 214 26 (by decide)).trans ((f2' 214 26 (by decide)).trans y2)
              simp (disch := omega) only [zup_eq, zput_app, zput_twice, upd_same, nI_1, za2, zA2, zm2, za3, zA3, zm3, za4, zA4, zm4, za9, zA9, zm9, za10, zA10, zm10, za18, zA18, zm18, za27, zA27, zm27, za36, zA36, zm36, za48, zA48, zm48, za288, zA288, zm288, zcl, zinT, upd_ne, upd_eq, zlt, znlt, zl2, zn2_, zl3, zn3_, zl5, zn5_, zl9, zn9_, zl10, zn10_, zl16, zn16_, zl20, zn20_, zl40, zn40_, zl60, zn60_, zl76, zn76_, zl80, zn80_, zl288, zn288_, zl300, zn300_, zneg, Nat.reduceEqDiff, Nat.reduceAdd, ↓reduceIte, t1, t26, s_hasR, b2i_0, zb_ysS h9 (show f < c.1 by omega), e3 f (by omega)]
              cases hy : yw false r f
              · simp only [↓reduceIte]
                refine ih' (f + 1) (by omega) (by omega) s' σ3 f3 (fun g hg => ?_) ?_
                · rw [e3 g hg]
                  by_cases hlt : g < f
                  · rw [if_pos hlt, if_pos (by omega)]
                  · rw [if_neg hlt]
                    by_cases hgf : g = f
                    · rw [hgf, if_pos (by omega), hy]; rfl
                    · rw [if_neg (by omega)]
                · rw [hs', sm_1, hy]; rfl
              · simp only [Bool.true_eq_false, ↓reduceIte]
                refine ih' (f + 1) (by omega) (by omega) (s' + 1) _ (Fr.tr f3 (Fr.put (fun i q => by simp at q))) (fun g hg => ?_) ?_
                · simp only [zput_app, ↓reduceIte]
                  by_cases hgf : g = f
                  · rw [hgf, upd_eq, if_neg (Nat.lt_irrefl f), if_pos (Nat.lt_succ_self f), hy]; rfl
                  · rw [upd_ne hgf, e3 g hg]
                    by_cases hlt : g < f
                    · rw [if_pos hlt, if_pos (by omega)]
                    · rw [if_neg hlt, if_neg (by omega)]
                · rw [hs', sm_1, hy]; show _ = s + (sm _ f + 1); omega
          exact hm (c.1 - f) (by omega)
        refine key 0 (Nat.zero_le _) s σ2' Fr.rf (fun g hg => ?_) rfl
        rw [if_neg (Nat.not_lt_zero g)]
        exact (f2' 227 g (by simp)).trans ((f2 227 g (by simp [pR])).trans (e1 g hg))
      have e382 : σ2 214 38 = nI q := (f2 214 38 (by decide)).trans e38
      rw [y2, e382]
      by_cases hz : ysS c false r = 0
      · rw [if_pos hz, nI_1]
        exact inner (q + 1) _ (by rw [decide_eq_true hz]; rfl) (Fr.up (by decide)) (by simp (disch := omega) only [zup_eq, zput_app, zput_twice, upd_same, nI_1, za2, zA2, zm2, za3, zA3, zm3, za4, zA4, zm4, za9, zA9, zm9, za10, zA10, zm10, za18, zA18, zm18, za27, zA27, zm27, za36, zA36, zm36, za48, zA48, zm48, za288, zA288, zm288, zcl, zinT, upd_ne, upd_eq, zlt, znlt, zl2, zn2_, zl3, zn3_, zl5, zn5_, zl9, zn9_, zl10, zn10_, zl16, zn16_, zl20, zn20_, zl40, zn40_, zl60, zn60_, zl76, zn76_, zl80, zn80_, zl288, zn288_, zl300, zn300_, zneg, Nat.reduceEqDiff, Nat.reduceAdd, ↓reduceIte])
      · rw [if_neg hz, Int32.add_zero]
        exact inner q _ (by rw [decide_eq_false hz]; rfl) (Fr.up (by decide)) (by simp (disch := omega) only [zup_eq, zput_app, zput_twice, upd_same, nI_1, za2, zA2, zm2, za3, zA3, zm3, za4, zA4, zm4, za9, zA9, zm9, za10, zA10, zm10, za18, zA18, zm18, za27, zA27, zm27, za36, zA36, zm36, za48, zA48, zm48, za288, zA288, zm288, zcl, zinT, upd_ne, upd_eq, zlt, znlt, zl2, zn2_, zl3, zn3_, zl5, zn5_, zl9, zn9_, zl10, zn10_, zl16, zn16_, zl20, zn20_, zl40, zn40_, zl60, zn60_, zl76, zn76_, zl80, zn80_, zl288, zn288_, zl300, zn300_, zneg, Nat.reduceEqDiff, Nat.reduceAdd, ↓reduceIte])
  have fill := z_for (F := 9) (P := fun k => ∀ σ1, Fr (fun o i => decide (o = 227 ∨ (o = 214 ∧ i = 38))) σ σ1 → σ1 214 38 = 0 → (∀ i, i < k → σ1 227 i = 0) → ∀ w4, Z (d + 226) 230 Q 9 [.ref 214, .int (nI n), .int 0, .int (nI k), w4] [] σ1) (fun k hk ih => ?_) ?_
  · exact fill _ (Fr.up (by decide)) (by simp (disch := omega) only [zup_eq, zput_app, zput_twice, upd_same, nI_1, za2, zA2, zm2, za3, zA3, zm3, za4, zA4, zm4, za9, zA9, zm9, za10, zA10, zm10, za18, zA18, zm18, za27, zA27, zm27, za36, zA36, zm36, za48, zA48, zm48, za288, zA288, zm288, zcl, zinT, upd_ne, upd_eq, zlt, znlt, zl2, zn2_, zl3, zn3_, zl5, zn5_, zl9, zn9_, zl10, zn10_, zl16, zn16_, zl20, zn20_, zl40, zn40_, zl60, zn60_, zl76, zn76_, zl80, zn80_, zl288, zn288_, zl300, zn300_, zneg, Nat.reduceEqDiff, Nat.reduceAdd, ↓reduceIte]) (fun i hi => absurd hi (Nat.not_lt_zero i)) _
  · intro σ1 f1 e38 e1 w4
    refine k_230_9 ?_
    simp (disch := omega) only [zup_eq, zput_app, zput_twice, upd_same, nI_1, za2, zA2, zm2, za3, zA3, zm3, za4, zA4, zm4, za9, zA9, zm9, za10, zA10, zm10, za18, zA18, zm18, za27, zA27, zm27, za36, zA36, zm36, za48, zA48, zm48, za288, zA288, zm288, zcl, zinT, upd_ne, upd_eq, zlt, znlt, zl2, zn2_, zl3, zn3_, zl5, zn5_, zl9, zn9_, zl10, zn10_, zl16, zn16_, zl20, zn20_, zl40, zn40_, zl60, zn60_, zl76, zn76_, zl80, zn80_, zl288, zn288_, zl300, zn300_, zneg, Nat.reduceEqDiff, Nat.reduceAdd, ↓reduceIte]
    refine ih _ (Fr.tr f1 (Fr.put (fun i q => by simp at q))) (by simp only [zput_app, Nat.reduceEqDiff, ↓reduceIte]; exact e38) (fun i hi => ?_) _
    simp only [zput_app, ↓reduceIte]
    by_cases h2 : i = k
    · rw [h2, upd_eq]
    · rw [upd_ne h2]; exact e1 i (by omega)
  · intro σ1 f1 e38 e1 w4
    refine k_230_9 ?_
    rw [if_neg (by decide)]
    have p1 : PF 226 c l t σ1 := PFto h f1 (fun o i q => by simp; omega)
    have fr1 : Fr scR σ σ1 := fr_scR f1 (fun o i q => by
      rcases of_decide_eq_true q with rfl | ⟨rfl, rfl⟩
      · exact sr_hi (by decide)
      · rfl)
    have e226 : σ1 226 = σ 226 := funext fun i => f1 226 i (by simp)
    refine loop n 0 (fun _ => 0) 0 0 t σ1 (by omega) (by omega) fr1 p1 (fun f hf => e1 f (by omega)) e38 ?_ _
    rw [e226]
    intro σ' h1 h2 h3
    rw [Nat.zero_add]
    rw [Nat.zero_add] at h3
    exact hq σ' h1 (fun f hf => by rw [h2 f hf, Nat.zero_add]) h3
