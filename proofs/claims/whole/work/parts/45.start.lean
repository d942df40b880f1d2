/-! sets of faces as numbers -/
def cn (p : Nat → Bool) : Nat → Nat
  | 0 => 0
  | n + 1 => cn p n + if p n then 1 else 0
theorem cn_1 (p : Nat → Bool) (n : Nat) : cn p (n + 1) = cn p n + if p n then 1 else 0 := rfl
theorem cn_le (p : Nat → Bool) : ∀ n, cn p n ≤ n := by
  intro n
  induction n with
  | zero => exact Nat.le_refl 0
  | succ n ih => unfold cn; split <;> omega
theorem cn_cong {p q : Nat → Bool} : ∀ n, (∀ k, k < n → p k = q k) → cn p n = cn q n := by
  intro n
  induction n with
  | zero => intro _; rfl
  | succ n ih => intro h; unfold cn; rw [ih (fun k hk => h k (by omega)), h n (by omega)]
theorem cn_ext {p : Nat → Bool} {F : Nat} : ∀ n, F ≤ n → (∀ k, F ≤ k → k < n → p k = false) → cn p n = cn p F := by
  intro n
  induction n with
  | zero => intro h _; rw [show F = 0 by omega]
  | succ n ih =>
    intro h hp
    by_cases hF : F = n + 1
    · rw [hF]
    · rw [cn_1, ih (by omega) (fun k h1 h2 => hp k h1 (by omega)), hp n (by omega) (by omega)]
      rfl
theorem i_small {x : Int32} (h : ∀ f, 9 ≤ f → f < 32 → zb x f = false) : ∃ n, n < 512 ∧ x = nI n := by
  have e : x = x &&& 511 := by
    apply zb_ext
    intro f hf
    rw [zb_and]
    by_cases h9 : f < 9
    · have : ∀ f, f < 9 → zb 511 f = true := by decide
      rw [this f h9, Bool.and_true]
    · rw [h f (by omega) hf]; rfl
  obtain ⟨j, hj, e2⟩ := pk_andE x (m := 511) 9 (by decide)
  exact ⟨j, hj, by rw [e, e2]⟩
theorem bc512 : ∀ n, n < 512 → bc (nI n) = nI (cn (zb (nI n)) 9) := by decide +kernel
theorem ls512 : ∀ n, n < 512 → n ≠ 0 → bc ((nI n &&& -(nI n)) - 1) = ff (zb (nI n)) 9 0 := by decide +kernel
theorem bl512 : ∀ n, n < 512 → ∀ s, s < 9 → bc (nI n &&& (zshl 1 (nI s) - 1)) = nI (cn (zb (nI n)) s) := by decide +kernel
theorem ff_at {p : Nat → Bool} {n k : Nat} (hk : k < n) (hp : p k = true) (hb : ∀ j, j < k → p j = false) : ff p n 0 = nI k := by
  rcases ff_cases (p := p) n 0 with ⟨-, h2⟩ | ⟨j, -, h2, h3, h4, h5⟩
  · rw [h2 k (by omega) (by omega)] at hp; cases hp
  · rw [h4]
    have : j = k := by
      rcases Nat.lt_trichotomy j k with q | q | q
      · rw [hb j q] at h3; cases h3
      · exact q
      · rw [h5 k (by omega) q] at hp; cases hp
    rw [this]
theorem bs_out {p : Nat → Bool} {F : Nat} (h9 : F ≤ 9) {f : Nat} (h1 : F ≤ f) (h2 : f < 32) : zb (bs p F) f = false := by
  rw [zb_bs (by omega) h2]
  simp; omega
theorem so_cong {e : Int32} {S S' : Nat → Int32} {x : Int32} : ∀ n, (∀ f, f < n → S f = S' f) → so e S x n = so e S' x n := by
  intro n
  induction n with
  | zero => intro _; rfl
  | succ n ih =>
    intro h
    unfold so
    rw [ih (fun f hf => h f (by omega)), sg_congr (h n (by omega))]
/-! the start -/
def fls (c : MC) (J : Int32) (r : Nat → Int32) : Int32 := msS c false r &&& J
def tru (c : MC) (J : Int32) (r : Nat → Int32) : Int32 := ysS c false r &&& (fls c J r ^^^ (-1))
/-- minutes played, k gone, n to come, fa false ones ahead: when it starts (-1: not), by whom, how many false ones ahead -/
def sW (c : MC) (J : Int32) : Nat → Nat → (Nat → Int32) → Int32 → Int32 × Int32 × Int32
  | 0, _, _, fa => (-1, -1, fa)
  | n + 1, k, r, fa => if tru c J r = 0 then sW c J n (k + 1) (ms c false r) (fa + bc (fls c J r)) else (nI k, bc ((tru c J r &&& -(tru c J r)) - 1), fa + bc (fls c J r &&& (zshl 1 (bc ((tru c J r &&& -(tru c J r)) - 1)) - 1)))
theorem sW_cong {c : MC} {J : Int32} (h9 : c.1 ≤ 9) : ∀ n k (r r' : Nat → Int32) fa, REq r r' → sW c J n k r fa = sW c J n k r' fa := by
  intro n
  induction n with
  | zero => intro k r r' fa _; rfl
  | succ n ih =>
    intro k r r' fa h
    have e1 : fls c J r = fls c J r' := by unfold fls; rw [msS_cong h9 h]
    have e2 : tru c J r = tru c J r' := by unfold tru; rw [ysS_cong h9 h, e1]
    unfold sW
    rw [e1, e2, ih _ _ _ _ (ms_cong h9 h)]
theorem s_leastOf {d : Nat} (x : Int32) (σ : zS) (Q : Int32 → zS → Prop) : ZC (d + 2) 151 [.int x] σ Q = Q (bc ((x &&& -x) - 1)) σ :=
  s_of (fun Q h => k_151_0 (by rw [s_bitCount]; exact h)) Q
/-- what playing on may change, of the class and of the reference -/
def pS (o i : Nat) : Bool := pw 23 o i || decide (o = 0 ∧ (i = 14 ∨ i = 15))
def pRS (o i : Nat) : Bool := pR 226 o i || decide (o = 214 ∧ (i = 35 ∨ i = 36))
theorem frS {σ σ' : zS} (h : Fr (pw 23) σ σ') : Fr pS σ σ' := Fr.mono h (fun o i q => by
  unfold pS at q
  rw [Bool.or_eq_false_iff] at q
  exact q.1)
theorem frRS {σ σ' : zS} (h : Fr (pR 226) σ σ') : Fr pRS σ σ' := Fr.mono h (fun o i q => by
  unfold pRS at q
  rw [Bool.or_eq_false_iff] at q
  exact q.1)
theorem PC.fr {c : MC} {l : List Int32} {t : Nat} {r : Nat → Int32} {σ σ' : zS} (h : PC c l t r σ) {p : Nat → Nat → Bool} (hf : Fr p σ σ') (hp : ∀ o i, (o = 3 ∨ o = 5 ∨ o = 7 ∨ (23 ≤ o ∧ o ≤ 30 ∧ (o = 23 → i = 3))) → p o i = false) : PC c l t r σ' := by
  obtain ⟨h1, ⟨g1, g2, g3, g4⟩, ⟨k1, k2, k3, k4, k5, k6⟩, h4, h5⟩ := h
  refine ⟨h1, ⟨?_, fun i hi => ?_, g3, g4⟩, ⟨?_, k2, fun f q => ⟨?_, ?_⟩, ?_, k5, fun i q => ?_⟩, CM.ag h4 (fun o i q1 q2 => hf o i (hp o i (by omega))), h5⟩
  · exact (hf 3 2 (hp _ _ (by decide))).trans g1
  · exact (hf 5 i (hp _ _ (by omega))).trans (g2 i hi)
  · exact (hf 23 3 (hp _ _ (by decide))).trans k1
  · exact (hf 24 f (hp _ _ (by omega))).trans (k3 f q).1
  · exact (hf 25 f (hp _ _ (by omega))).trans (k3 f q).2
  · exact (hf 3 5 (hp _ _ (by decide))).trans k4
  · exact (hf 7 i (hp _ _ (by omega))).trans (k6 i q)
theorem c_startWithin {d : Nat} {σ : zS} {c : MC} {l : List Int32} {t n : Nat} {r : Nat → Int32} {j : Int32} (h : PC c l t r σ) (hj : σ 0 13 = j) (hn : n ≤ 300) (ht : t + 300 < 1073741824) {Q : Int32 → zS → Prop}
    (hq : ∀ σ', Fr pS σ σ' → σ' 0 14 = (sW c (so (nI c.1) c.2.2.1 j c.1) n 0 r 0).2.1 → σ' 0 15 = (sW c (so (nI c.1) c.2.2.1 j c.1) n 0 r 0).2.2 → Q (sW c (so (nI c.1) c.2.2.1 j c.1) n 0 r 0).1 σ') : ZC (d + 6) 150 [.ref 0, .int (nI n)] σ Q := by
  refine k_150_0 ?_
  have h9 : c.1 ≤ 9 := h.2.2.1.2.1
  generalize hσ0 : zup (zup σ 0 14 (-1)) 0 15 0 = σ0
  have f0 : Fr pS σ σ0 := by rw [← hσ0]; exact Fr.tr (Fr.up (by decide)) (Fr.up (by decide))
  have h0 : PC c l t r σ0 := by
    rw [← hσ0]
    exact PC.fr (p := fun o i => decide (o = 0)) h (Fr.tr (Fr.up (by decide)) (Fr.up (by decide))) (fun o i q => by simp; omega)
  rw [hj, c_sightOf23 h0.2.2.1.1 h9, so_cong c.1 (fun f hf => (h0.2.2.1.2.2.1 f hf).2)]
  generalize hJ : so (nI c.1) c.2.2.1 j c.1 = J at hq
  have loop : ∀ m k (r : Nat → Int32) fa t (σ1 : zS), k + m = n → t + m < 1073741824 → Fr pS σ σ1 → PC c l t r σ1 → σ1 0 14 = -1 → σ1 0 15 = fa → (∀ σ', Fr pS σ σ' → σ' 0 14 = (sW c J m k r fa).2.1 → σ' 0 15 = (sW c J m k r fa).2.2 → Q (sW c J m k r fa).1 σ') → ∀ w4 w5, Z (d + 5) 150 Q 24 [.ref 0, .int (nI n), .int J, .int (nI k), w4, w5] [] σ1 := by
    intro m
    induction m with
    | zero =>
      intro k r fa t σ1 hk ht hf h1 e14 e15 hq w4 w5
      refine k_150_24 ?_
      rw [if_neg (nI_nlt (by omega) (by omega))]
      exact hq σ1 hf e14 e15
    | succ m ih =>
      intro k r fa t σ1 hk ht hf h1 e14 e15 hq w4 w5
      refine k_150_24 ?_
      rw [if_pos (nI_lt (by omega) (by omega)), show (Value.int 0) = .int (b2i false) from rfl]
      refine c_passT h1 (by omega) (fun σ2 f2 p2 y2 m2 l2 => ?_)
      rw [y2, m2]
      have ef : msS c false r &&& J = fls c J r := rfl
      have et : ysS c false r &&& (fls c J r ^^^ (-1)) = tru c J r := rfl
      rw [ef, et]
      have hf2 := Fr.tr hf (frS f2)
      have g14 : σ2 0 14 = -1 := (f2 0 14 (by decide)).trans e14
      have g15 : σ2 0 15 = fa := (f2 0 15 (by decide)).trans e15
      unfold sW at hq
      by_cases hz : tru c J r = 0
      · rw [if_pos hz, s_bitCount, nI_1]
        rw [if_pos hz] at hq
        refine ih (k + 1) (ms c false r) (fa + bc (fls c J r)) (t + 1) _ (by omega) (by omega) (Fr.tr hf2 (Fr.up (by decide))) ?_ ?_ ?_ hq _ _
        · exact PC.fr (p := fun o i => decide (o = 0)) p2 (Fr.up (by decide)) (fun o i q => by simp; omega)
        · simp (disch := omega) only [zup_eq, zput_app, zput_twice, upd_same, nI_1, za2, zA2, zm2, za3, zA3, zm3, za4, zA4, zm4, za9, zA9, zm9, za10, zA10, zm10, za18, zA18, zm18, za27, zA27, zm27, za36, zA36, zm36, za48, zA48, zm48, za288, zA288, zm288, zcl, zinT, upd_ne, upd_eq, zlt, znlt, zl2, zn2_, zl3, zn3_, zl5, zn5_, zl9, zn9_, zl10, zn10_, zl16, zn16_, zl20, zn20_, zl40, zn40_, zl60, zn60_, zl76, zn76_, zl80, zn80_, zl288, zn288_, zl300, zn300_, zneg, Nat.reduceEqDiff, Nat.reduceAdd, ↓reduceIte]; exact g14
        · simp (disch := omega) only [zup_eq, zput_app, zput_twice, upd_same, nI_1, za2, zA2, zm2, za3, zA3, zm3, za4, zA4, zm4, za9, zA9, zm9, za10, zA10, zm10, za18, zA18, zm18, za27, zA27, zm27, za36, zA36, zm36, za48, zA48, zm48, za288, zA288, zm288, zcl, zinT, upd_ne, upd_eq, zlt, znlt, zl2, zn2_, zl3, zn3_, zl5, zn5_, zl9, zn9_, zl10, zn10_, zl16, zn16_, zl20, zn20_, zl40, zn40_, zl60, zn60_, zl76, zn76_, zl80, zn80_, zl288, zn288_, zl300, zn300_, zneg, Nat.reduceEqDiff, Nat.reduceAdd, ↓reduceIte, g15]
      · rw [if_neg hz, s_leastOf, s_bit, s_bitCount]
        rw [if_neg hz] at hq
        refine hq _ (Fr.tr hf2 (Fr.tr (Fr.up (by decide)) (Fr.up (by decide)))) ?_ ?_
        · simp (disch := omega) only [zup_eq, zput_app, zput_twice, upd_same, nI_1, za2, zA2, zm2, za3, zA3, zm3, za4, zA4, zm4, za9, zA9, zm9, za10, zA10, zm10, za18, zA18, zm18, za27, zA27, zm27, za36, zA36, zm36, za48, zA48, zm48, za288, zA288, zm288, zcl, zinT, upd_ne, upd_eq, zlt, znlt, zl2, zn2_, zl3, zn3_, zl5, zn5_, zl9, zn9_, zl10, zn10_, zl16, zn16_, zl20, zn20_, zl40, zn40_, zl60, zn60_, zl76, zn76_, zl80, zn80_, zl288, zn288_, zl300, zn300_, zneg, Nat.reduceEqDiff, Nat.reduceAdd, ↓reduceIte]
        · simp (disch := omega) only [zup_eq, zput_app, zput_twice, upd_same, nI_1, za2, zA2, zm2, za3, zA3, zm3, za4, zA4, zm4, za9, zA9, zm9, za10, zA10, zm10, za18, zA18, zm18, za27, zA27, zm27, za36, zA36, zm36, za48, zA48, zm48, za288, zA288, zm288, zcl, zinT, upd_ne, upd_eq, zlt, znlt, zl2, zn2_, zl3, zn3_, zl5, zn5_, zl9, zn9_, zl10, zn10_, zl16, zn16_, zl20, zn20_, zl40, zn40_, zl60, zn60_, zl76, zn76_, zl80, zn80_, zl288, zn288_, zl300, zn300_, zneg, Nat.reduceEqDiff, Nat.reduceAdd, ↓reduceIte, g15]
  exact loop n 0 r 0 t σ0 (by omega) (by omega) f0 h0 (by rw [← hσ0]; simp (disch := omega) only [zup_eq, zput_app, zput_twice, upd_same, nI_1, za2, zA2, zm2, za3, zA3, zm3, za4, zA4, zm4, za9, zA9, zm9, za10, zA10, zm10, za18, zA18, zm18, za27, zA27, zm27, za36, zA36, zm36, za48, zA48, zm48, za288, zA288, zm288, zcl, zinT, upd_ne, upd_eq, zlt, znlt, zl2, zn2_, zl3, zn3_, zl5, zn5_, zl9, zn9_, zl10, zn10_, zl16, zn16_, zl20, zn20_, zl40, zn40_, zl60, zn60_, zl76, zn76_, zl80, zn80_, zl288, zn288_, zl300, zn300_, zneg, Nat.reduceEqDiff, Nat.reduceAdd, ↓reduceIte]) (by rw [← hσ0]; simp (disch := omega) only [zup_eq, zput_app, zput_twice, upd_same, nI_1, za2, zA2, zm2, za3, zA3, zm3, za4, zA4, zm4, za9, zA9, zm9, za10, zA10, zm10, za18, zA18, zm18, za27, zA27, zm27, za36, zA36, zm36, za48, zA48, zm48, za288, zA288, zm288, zcl, zinT, upd_ne, upd_eq, zlt, znlt, zl2, zn2_, zl3, zn3_, zl5, zn5_, zl9, zn9_, zl10, zn10_, zl16, zn16_, zl20, zn20_, zl40, zn40_, zl60, zn60_, zl76, zn76_, zl80, zn80_, zl288, zn288_, zl300, zn300_, zneg, Nat.reduceEqDiff, Nat.reduceAdd, ↓reduceIte]) hq _ _
theorem and_sub {y m J : Int32} (h : ∀ f, f < 32 → zb m f = true → zb y f = true) : (y &&& m) &&& J = m &&& J := by
  apply zb_ext
  intro f hf
  rw [zb_and, zb_and, zb_and]
  cases hm : zb m f
  · simp
  · rw [h f hf hm]; simp
theorem PFto {c : MC} {l : List Int32} {t : Nat} {σ σ' : zS} (h : PF 226 c l t σ) {p : Nat → Nat → Bool} (hf : Fr p σ σ') (hp : ∀ o i, (o = 216 ∨ o = 217 ∨ o = 218 ∨ o = 222 ∨ o = 226 ∨ (o = 214 ∧ (i = 1 ∨ i = 6 ∨ i = 20))) → p o i = false) : PF 226 c l t σ' := by
  obtain ⟨h1, h2, h3, h4, h5, ⟨k1, k2, k3, k4⟩, h7⟩ := h
  refine ⟨h1, RRef.ag h2 (hf 214 20 (hp _ _ (by decide))) (fun i => hf 222 i (hp _ _ (by omega))), (hf 214 6 (hp _ _ (by decide))).trans h3, h4, ?_, ⟨(hf 214 1 (hp _ _ (by decide))).trans k1, ?_, ?_, k4⟩, ?_⟩
  · rw [← h5]; exact funext fun i => hf 218 i (hp _ _ (by omega))
  · rw [← k2]; exact funext fun i => hf 216 i (hp _ _ (by omega))
  · rw [← k3]; exact funext fun i => hf 217 i (hp _ _ (by omega))
  · have : σ' 226 = σ 226 := funext fun i => hf 226 i (hp _ _ (by omega))
    rw [this]; exact h7
theorem r_findStart {d : Nat} {σ : zS} {c : MC} {l : List Int32} {t n : Nat} {j : Int32} (h : PF 226 c l t σ) (h7 : σ 214 7 = 0) (hj : σ 214 4 = j) (hn : n ≤ 300) (ht : t + 300 < 100000000) {Q : Int32 → zS → Prop}
    (hq : ∀ σ', Fr pRS σ σ' → ((sW c (so (nI c.1) c.2.2.1 j c.1) n 0 (σ 226) 0).1 = -1 ∨ (σ' 214 35 = (sW c (so (nI c.1) c.2.2.1 j c.1) n 0 (σ 226) 0).2.1 ∧ σ' 214 36 = (sW c (so (nI c.1) c.2.2.1 j c.1) n 0 (σ 226) 0).2.2)) → Q (sW c (so (nI c.1) c.2.2.1 j c.1) n 0 (σ 226) 0).1 σ') : ZC (d + 227) 228 [.ref 214, .int (nI n)] σ Q := by
  refine k_228_0 ?_
  have h9 : c.1 ≤ 9 := h.2.2.2.2.2.1.2.2.2
  generalize hJ : so (nI c.1) c.2.2.1 j c.1 = J at hq
  have loop : ∀ m k fa t (σ1 : zS), k + m = n → t + m < 100000000 → Fr pRS σ σ1 → PF 226 c l t σ1 → σ1 214 36 = fa → (∀ σ', Fr pRS σ σ' → ((sW c J m k (σ1 226) fa).1 = -1 ∨ (σ' 214 35 = (sW c J m k (σ1 226) fa).2.1 ∧ σ' 214 36 = (sW c J m k (σ1 226) fa).2.2)) → Q (sW c J m k (σ1 226) fa).1 σ') → ∀ w3 w4, Z (d + 226) 228 Q 7 [.ref 214, .int (nI n), .int (nI k), w3, w4] [] σ1 := by
    intro m
    induction m with
    | zero =>
      intro k fa t σ1 hk ht hf h1 e36 hq w3 w4
      refine k_228_7 ?_
      rw [if_neg (nI_nlt (by omega) (by omega))]
      exact hq σ1 hf (Or.inl rfl)
    | succ m ih =>
      intro k fa t σ1 hk ht hf h1 e36 hq w3 w4
      refine k_228_7 ?_
      rw [if_pos (nI_lt (by omega) (by omega))]
      refine r_passT226 (fr := false) h1 ((hf 214 7 (by decide)).trans h7) (by omega) (fun σ2 f2 p2 r2 y2 k2 m2 => ?_)
      obtain ⟨-, -, -, -, -, ⟨q1, q2, q3, q4⟩, -⟩ := id p2
      have g4 : σ2 214 4 = j := (f2 214 4 (by decide)).trans ((hf 214 4 (by decide)).trans hj)
      rw [r_falseOnes q1 h9, g4, q3, hJ, y2, m2]
      have hmy : ∀ f, f < 32 → zb (msS c false (σ1 226)) f = true → zb (ysS c false (σ1 226)) f = true := by
        intro f hf' hm
        unfold msS at hm
        unfold ysS
        rw [zb_bs (by omega) hf'] at hm ⊢
        rw [Bool.and_eq_true] at hm ⊢
        exact ⟨hm.1, mw_yw hm.2⟩
      rw [and_sub hmy]
      have ef : msS c false (σ1 226) &&& J = fls c J (σ1 226) := rfl
      rw [ef]
      unfold sW at hq
      generalize hfl : fls c J (σ1 226) = fl at hq
      have hft : tru c J (σ1 226) = ysS c false (σ1 226) &&& (fl ^^^ (-1)) := by unfold tru; rw [hfl]
      generalize htr : tru c J (σ1 226) = tr at hq hft
      generalize hys : ysS c false (σ1 226) = ys at hft y2
      have hyo : ∀ f, c.1 ≤ f → f < 32 → zb ys f = false := fun f h1 h2 => by rw [← hys]; exact bs_out h9 h1 h2
      have hfo : ∀ f, f < 32 → zb fl f = true → zb ys f = true := by
        intro f hf' hm
        rw [← hfl] at hm
        unfold fls at hm
        rw [zb_and, Bool.and_eq_true] at hm
        rw [← hys]; exact hmy f hf' hm.1
      have hto : ∀ f, f < 32 → zb tr f = (zb ys f && !zb fl f) := by
        intro f hf'
        rw [hft, zb_and, zb_not hf']
      have hflo : ∀ f, c.1 ≤ f → f < 32 → zb fl f = false := by
        intro f h1 h2
        cases hb : zb fl f
        · rfl
        · have := hfo f h2 hb; rw [hyo f h1 h2] at this; cases this
      obtain ⟨nf, hnf, enf⟩ := i_small (x := fl) (fun f h1 h2 => hflo f (by omega) h2)
      have e236 : σ2 214 36 = fa := (f2 214 36 (by decide)).trans e36
      have hf2 := Fr.tr hf (frRS f2)
      refine z_forI (F := c.1) (I := fun f => ∀ g, g < f → zb tr g = false) (P := fun f => ∀ σ3, Fr (fun o i => decide (o = 214 ∧ i = 36)) σ2 σ3 → σ3 214 36 = fa + nI (cn (zb fl) f) → Z (d + 226) 228 Q 28 [.ref 214, .int (nI n), .int (nI k), .int fl, .int (nI f)] [] σ3) (fun f hff hI ihf => ?_) ?_ (fun g hg => absurd hg (Nat.not_lt_zero g)) σ2 Fr.rf ?_
      · intro σ3 f3 e3
        refine k_228_28 ?_
        have t1 : σ3 214 1 = nI c.1 := (f3 214 1 (by decide)).trans q1
        have t26 : σ3 214 26 = ys := (f3 214 26 (by decide)).trans y2
        simp (disch := omega) only [t1, zlt, s_hasR, b2i_0, t26, nI_1, ↓reduceIte]
        cases hy : zb ys f
        · simp only [↓reduceIte]
          have hfl0 : zb fl f = false := by
            cases hb : zb fl f
            · rfl
            · have := hfo f (by omega) hb; rw [hy] at this; cases this
          refine ihf ?_ σ3 f3 ?_
          · intro g hg
            by_cases hgf : g = f
            · rw [hgf, hto f (by omega), hy]; rfl
            · exact hI g (by omega)
          · rw [e3, cn_1, hfl0]; rfl
        · simp only [Bool.true_eq_false, ↓reduceIte]
          cases hb : zb fl f
          · simp only [↓reduceIte]
            have htf : zb tr f = true := by rw [hto f (by omega), hy, hb]; rfl
            have hne : ¬ tr = 0 := by
              intro q; rw [q, zb_0] at htf; cases htf
            rw [if_neg hne] at hq
            obtain ⟨nt, hnt, ent⟩ := i_small (x := tr) (fun f h1 h2 => by rw [hto f h2, hyo f (by omega) h2]; rfl)
            have hls : bc ((tr &&& -tr) - 1) = nI f := by
              rw [ent, ls512 nt hnt (by rintro rfl; exact hne ent), ← ent]
              exact ff_at (by omega) htf hI
            rw [hls, enf, bl512 nf hnf f (by omega), ← enf] at hq
            refine hq _ (Fr.tr hf2 (Fr.tr (Fr.mono f3 (fun o i q => ?_)) (Fr.up (by decide)))) (Or.inr ⟨?_, ?_⟩)
            · simp only [decide_eq_false_iff_not]
              rintro ⟨rfl, rfl⟩
              simp [pRS] at q
            · simp (disch := omega) only [zup_eq, zput_app, zput_twice, upd_same, nI_1, za2, zA2, zm2, za3, zA3, zm3, za4, zA4, zm4, za9, zA9, zm9, za10, zA10, zm10, za18, zA18, zm18, za27, zA27, zm27, za36, zA36, zm36, za48, zA48, zm48, za288, zA288, zm288, zcl, zinT, upd_ne, upd_eq, zlt, znlt, zl2, zn2_, zl3, zn3_, zl5, zn5_, zl9, zn9_, zl10, zn10_, zl16, zn16_, zl20, zn20_, zl40, zn40_, zl60, zn60_, zl76, zn76_, zl80, zn80_, zl288, zn288_, zl300, zn300_, zneg, Nat.reduceEqDiff, Nat.reduceAdd, ↓reduceIte]
            · simp (disch := omega) only [zup_eq, zput_app, zput_twice, upd_same, nI_1, za2, zA2, zm2, za3, zA3, zm3, za4, zA4, zm4, za9, zA9, zm9, za10, zA10, zm10, za18, zA18, zm18, za27, zA27, zm27, za36, zA36, zm36, za48, zA48, zm48, za288, zA288, zm288, zcl, zinT, upd_ne, upd_eq, zlt, znlt, zl2, zn2_, zl3, zn3_, zl5, zn5_, zl9, zn9_, zl10, zn10_, zl16, zn16_, zl20, zn20_, zl40, zn40_, zl60, zn60_, zl76, zn76_, zl80, zn80_, zl288, zn288_, zl300, zn300_, zneg, Nat.reduceEqDiff, Nat.reduceAdd, ↓reduceIte, e3]
          · simp only [Bool.true_eq_false, ↓reduceIte]
            refine ihf ?_ _ (Fr.tr f3 (Fr.up (by decide))) ?_
            · intro g hg
              by_cases hgf : g = f
              · rw [hgf, hto f (by omega), hy, hb]; rfl
              · exact hI g (by omega)
            · simp (disch := omega) only [zup_eq, zput_app, zput_twice, upd_same, nI_1, za2, zA2, zm2, za3, zA3, zm3, za4, zA4, zm4, za9, zA9, zm9, za10, zA10, zm10, za18, zA18, zm18, za27, zA27, zm27, za36, zA36, zm36, za48, zA48, zm48, za288, zA288, zm288, zcl, zinT, upd_ne, upd_eq, zlt, znlt, zl2, zn2_, zl3, zn3_, zl5, zn5_, zl9, zn9_, zl10, zn10_, zl16, zn16_, zl20, zn20_, zl40, zn40_, zl60, zn60_, zl76, zn76_, zl80, zn80_, zl288, zn288_, zl300, zn300_, zneg, Nat.reduceEqDiff, Nat.reduceAdd, ↓reduceIte, e3]
              rw [cn_1, hb]
              simp only [↓reduceIte]
              rw [← nI_1, Int32.add_assoc]
      · intro hI σ3 f3 e3
        refine k_228_28 ?_
        have t1 : σ3 214 1 = nI c.1 := (f3 214 1 (by decide)).trans q1
        simp (disch := omega) only [t1, znlt, nI_1, ↓reduceIte]
        have hz : tr = 0 := by
          apply zb_ext
          intro f hf'
          rw [zb_0]
          by_cases hfc : f < c.1
          · exact hI f hfc
          · rw [hto f hf', hyo f (by omega) hf']; rfl
        rw [if_pos hz] at hq
        have h226 : σ3 226 = ms c false (σ1 226) := (funext fun i => f3 226 i (by simp)).trans r2
        rw [← h226] at hq
        have hfr3 : Fr pRS σ σ3 := Fr.tr hf2 (Fr.mono f3 (fun o i q => by
          simp only [decide_eq_false_iff_not]
          rintro ⟨rfl, rfl⟩
          simp [pRS] at q))
        refine ih (k + 1) (fa + bc fl) (t + 1) σ3 (by omega) (by omega) hfr3 (PFto p2 f3 (fun o i q => by simp; omega)) ?_ hq _ _
        rw [e3, enf, bc512 nf hnf, ← enf, cn_ext 9 h9 (fun f h1 h2 => hflo f h1 (by omega))]
      · rw [e236]; show fa = fa + nI 0; exact (Int32.add_zero fa).symm
  have h0 : PF 226 c l t (zup σ 214 36 0) := PFto h (p := fun o i => decide (o = 214 ∧ i = 36)) (Fr.up (by decide)) (fun o i q => by simp; omega)
  have e226 : (zup σ 214 36 0) 226 = σ 226 := by simp (disch := omega) only [zup_eq, zput_app, zput_twice, upd_same, nI_1, za2, zA2, zm2, za3, zA3, zm3, za4, zA4, zm4, za9, zA9, zm9, za10, zA10, zm10, za18, zA18, zm18, za27, zA27, zm27, za36, zA36, zm36, za48, zA48, zm48, za288, zA288, zm288, zcl, zinT, upd_ne, upd_eq, zlt, znlt, zl2, zn2_, zl3, zn3_, zl5, zn5_, zl9, zn9_, zl10, zn10_, zl16, zn16_, zl20, zn20_, zl40, zn40_, zl60, zn60_, zl76, zn76_, zl80, zn80_, zl288, zn288_, zl300, zn300_, zneg, Nat.reduceEqDiff, Nat.reduceAdd, ↓reduceIte]
  rw [← e226] at hq
  exact loop n 0 0 t _ (by omega) (by omega) (Fr.up (by decide)) h0 (by simp (disch := omega) only [zup_eq, zput_app, zput_twice, upd_same, nI_1, za2, zA2, zm2, za3, zA3, zm3, za4, zA4, zm4, za9, zA9, zm9, za10, zA10, zm10, za18, zA18, zm18, za27, zA27, zm27, za36, zA36, zm36, za48, zA48, zm48, za288, zA288, zm288, zcl, zinT, upd_ne, upd_eq, zlt, znlt, zl2, zn2_, zl3, zn3_, zl5, zn5_, zl9, zn9_, zl10, zn10_, zl16, zn16_, zl20, zn20_, zl40, zn40_, zl60, zn60_, zl76, zn76_, zl80, zn80_, zl288, zn288_, zl300, zn300_, zneg, Nat.reduceEqDiff, Nat.reduceAdd, ↓reduceIte]) hq _ _
