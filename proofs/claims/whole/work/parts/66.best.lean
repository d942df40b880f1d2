/-! the best hour -/
def sX (o i : Nat) : Bool := decide (o = 4 ∨ o = 6 ∨ (23 ≤ o ∧ o ≤ 31) ∨ (o = 0 ∧ (i = 14 ∨ i = 15)))
theorem fr_sX {p : Nat → Nat → Bool} {σ σ' : zS} (h : Fr p σ σ') (hp : ∀ o i, p o i = true → sX o i = true) : Fr sX σ σ' := Fr.mono h (fun o i q => by
  cases hb : p o i
  · rfl
  · rw [hp o i hb] at q; cases q)
theorem Fr.sXC {σ σ' : zS} (h : Fr sX σ σ') : Fr scC σ σ' := fr_scC h (fun o i q => by
  rcases of_decide_eq_true q with rfl | rfl | h2 | ⟨rfl, h2⟩
  · exact sc_4 i
  · exact sc_6 i
  · exact sc_hi (by omega)
  · exact sc_0 (by omega))
theorem Fr.SX {σ σ' : zS} (h : Fr pS σ σ') : Fr sX σ σ' := fr_sX h (fun o i q => by
  unfold pS pw at q
  rw [Bool.or_eq_true, decide_eq_true_eq, decide_eq_true_eq] at q
  unfold sX
  rw [decide_eq_true_eq]
  omega)
theorem Fr.pmX {σ σ' : zS} (h : Fr (pm 26) σ σ') : Fr sX σ σ' := fr_sX h (fun o i q => by
  have := of_decide_eq_true q
  unfold sX
  rw [decide_eq_true_eq]
  omega)
theorem c_takeX {d : Nat} {σ σ1 : zS} {c : MC} {l : List Int32} {t : Nat} (h0 : Ctx c l t σ) (ft : Fr tC σ σ1) {Q : Int32 → zS → Prop} (hq : ∀ σ', Fr sX σ1 σ' → PC c l t (σ 215) σ' → Q 0 σ') : ZC (d + 2) 71 [.ref 23, .ref 14] σ1 Q := by
  obtain ⟨h1, ⟨g1, g2, g3, g4⟩, ⟨k1, k2, k3, k4, k5, k6⟩, h4, h5, h6, h7, h8, h9, h10, h11⟩ := h0.fr (FrCT ft)
  rw [tC_215 ft] at h4 h9
  refine c_take (fun σ' f1 m1 e1 e2 => ?_)
  refine hq σ' (fr_sX f1 (fun o i q => ?_)) ⟨h1, ⟨(f1 3 2 (by decide)).trans g1, fun i hi => (f1 5 i (by simp)).trans (g2 i hi), g3, g4⟩, ⟨e1.trans k1, k2, fun f q => ?_, (f1 3 5 (by decide)).trans k4, k5, fun i q => (f1 7 i (by simp)).trans (k6 i q)⟩, CM.copy k2 m1 h4, h9⟩
  · have := of_decide_eq_true q
    unfold sX
    rw [decide_eq_true_eq]
    omega
  · obtain ⟨q1, q2⟩ := e2 f (by omega)
    exact ⟨q1.trans (k3 f q).1, q2.trans (k3 f q).2⟩
theorem c_tireX {d : Nat} {σ : zS} {c : MC} {l : List Int32} {t f : Nat} {r : Nat → Int32} (x : Int32) (h : PC c l t r σ) (hf : f < c.1) {Q : Int32 → zS → Prop} (hq : ∀ σ', Fr sX σ σ' → PC c l t (trd r f x) σ' → Q 0 σ') : ZC (d + 2) 33 [.ref 26, .int (nI f), .int x] σ Q := by
  have h9 := h.2.2.1.2.1
  refine c_tire23 h.2.2.2.1 h9 hf x (fun σ' f1 c1 => ?_)
  exact hq σ' (Fr.pmX f1) (h.row f1 c1 (trd_WR h9 (by omega) x h.2.2.2.2))
theorem sX_tC {σ σ1 σ2 : zS} (f1 : Fr tC σ σ1) (f2 : Fr sX σ1 σ2) : Fr tC σ σ2 := Fr.tr f1 f2.sXC.cT
theorem c_stX1 {d : Nat} {σ σ1 : zS} {c : MC} {l : List Int32} {t f : Nat} (hc : Ctx c l t σ) (f1 : Fr tC σ σ1) (hf : f < c.1) (v : Int32) (ht : t + 300 < 1073741824) {Q : Int32 → zS → Prop} (hq : ∀ σ', Fr sX σ1 σ' → Q (stR c (σ 214 4) (trd (σ 215) f v)).1 σ') : ZC (d + 7) 153 [.ref 0, .int (nI f), .int v] σ1 Q := by
  refine k_153_0 ?_
  refine c_takeX hc f1 (fun σ2 f2 p2 => ?_)
  refine c_tireX v p2 hf (fun σ3 f3 p3 => ?_)
  have f13 := Fr.tr f2 f3
  refine c_startWithin (n := 300) (j := σ 214 4) p3 ((sX_tC f1 f13 0 13 (by decide)).trans hc.hj) (by decide) ht (fun σ4 f4 _ _ => ?_)
  exact hq σ4 (Fr.tr f13 (Fr.SX f4))
theorem c_stX0 {d : Nat} {σ σ1 : zS} {c : MC} {l : List Int32} {t : Nat} (hc : Ctx c l t σ) (f1 : Fr tC σ σ1) (v : Int32) (ht : t + 300 < 1073741824) {Q : Int32 → zS → Prop} (hq : ∀ σ', Fr sX σ1 σ' → Q (stR c (σ 214 4) (σ 215)).1 σ') : ZC (d + 7) 153 [.ref 0, .int (-1), .int v] σ1 Q := by
  refine k_153_0 ?_
  refine c_takeX hc f1 (fun σ2 f2 p2 => ?_)
  rw [c_tire0]
  refine c_startWithin (n := 300) (j := σ 214 4) p2 ((sX_tC f1 f2 0 13 (by decide)).trans hc.hj) (by decide) ht (fun σ4 f4 _ _ => ?_)
  exact hq σ4 (Fr.tr f2 (Fr.SX f4))
/-! the same, of the other -/
def rX (o i : Nat) : Bool := pRS o i
theorem r_stX {d : Nat} {σ σ3 σ4 : zS} {c : MC} {l : List Int32} {t f : Nat} (hc : Ctx c l t σ) (f3 : Fr tC σ σ3) (f4 : Fr tR σ3 σ4) (hf : f < 9) (v : Int32) (ht : t + 300 < 100000000) {Q : Int32 → zS → Prop} (hq : ∀ σ', Fr pRS σ4 σ' → Q (stR c (σ 214 4) (trd (σ 215) f v)).1 σ') : ZC (d + 228) 247 [.ref 214, .int (nI f), .int v] σ4 Q := by
  refine k_247_0 ?_
  refine r_begin2 hc f3 f4 (fun σ5 f5' f5 p5 e7 e4 e5 => ?_)
  have hreq : REq (σ5 226) (σ 215) := fun i hi => e5 i (by omega)
  rw [r_more']
  simp (disch := omega) only [zup_eq, zput_app, zput_twice, upd_same, nI_1, za2, zA2, zm2, za3, zA3, zm3, za4, zA4, zm4, za9, zA9, zm9, za10, zA10, zm10, za18, zA18, zm18, za27, zA27, zm27, za36, zA36, zm36, za48, zA48, zm48, za288, zA288, zm288, zcl, zinT, upd_ne, upd_eq, zlt, znlt, zl2, zn2_, zl3, zn3_, zl5, zn5_, zl9, zn9_, zl10, zn10_, zl16, zn16_, zl20, zn20_, zl40, zn40_, zl60, zn60_, zl76, zn76_, zl80, zn80_, zl288, zn288_, zl300, zn300_, zneg, Nat.reduceEqDiff, Nat.reduceAdd, ↓reduceIte]
  rw [show upd (σ5 226) f (mx0 (mn9 (σ5 226 f + v))) = trd (σ5 226) f v from rfl]
  have p6 : PF 226 c l t (zput σ5 226 (trd (σ5 226) f v)) := p5.set (trd_WR hc.h9 hf _ p5.2.2.2.2.2.2)
  have k7 : (zput σ5 226 (trd (σ5 226) f v)) 214 7 = 0 := by simp only [zput_app, Nat.reduceEqDiff, ↓reduceIte]; exact e7
  have kj : (zput σ5 226 (trd (σ5 226) f v)) 214 4 = σ 214 4 := by simp only [zput_app, Nat.reduceEqDiff, ↓reduceIte]; exact e4
  refine r_findStart (n := 300) (j := σ 214 4) p6 k7 kj (by decide) ht (fun σ9 f9 _ => ?_)
  rw [e226]
  have e : (sW c (so (nI c.1) c.2.2.1 (σ 214 4) c.1) 300 0 (trd (σ5 226) f v) 0) = stR c (σ 214 4) (trd (σ 215) f v) := sW_cong hc.h9 300 0 _ _ 0 (trd_cong hreq hf v)
  rw [e]
  have h226 : Fr pRS σ4 σ5 := Fr.mono f5' (fun o i q => by
    unfold pRS pR at q
    rw [Bool.or_eq_false_iff, Bool.or_eq_false_iff] at q
    exact q.1.1)
  exact hq σ9 (Fr.tr h226 (Fr.tr (Fr.put (fun i q => by simp [pRS, pR] at q)) f9))
/-- the starts, gathered -/
def gth (w : Nat → Int32) : Nat → Nat × (Nat → Int32)
  | 0 => (0, fun _ => 0)
  | k + 1 => if w k = -1 then gth w k else ((gth w k).1 + 1, upd (gth w k).2 (gth w k).1 (w k))
theorem gth_1 (w : Nat → Int32) (k : Nat) : gth w (k + 1) = if w k = -1 then gth w k else ((gth w k).1 + 1, upd (gth w k).2 (gth w k).1 (w k)) := rfl
theorem gth_le (w : Nat → Int32) : ∀ k, (gth w k).1 ≤ k := by
  intro k
  induction k with
  | zero => exact Nat.le_refl 0
  | succ k ih =>
    rw [gth_1]
    split
    · omega
    · show (gth w k).1 + 1 ≤ k + 1
      omega
/-- the k-th that is tired otherwise: none, and then each -/
def ixN (k : Nat) : Int32 := if k = 0 then -1 else nI (k - 1)
theorem ixN_1 (k : Nat) : ixN k + 1 = ixN (k + 1) := by
  have e : ixN (k + 1) = nI k := if_neg (by omega)
  rw [e]
  by_cases h : k = 0
  · subst h; rfl
  · rw [show ixN k = nI (k - 1) from if_neg h, show (1 : Int32) = nI 1 from rfl, nI_add]
    congr 1
    omega
def spr (y z : Int32) (g : Nat → Int32) (x : Int32) : Nat → Int32
  | 0 => 0
  | n + 1 => spr y z g x n + prc y z x (g n)
theorem spr_1 (y z : Int32) (g : Nat → Int32) (x : Int32) (n : Nat) : spr y z g x (n + 1) = spr y z g x n + prc y z x (g n) := rfl
theorem c_priceAll {d : Nat} {σ : zS} {i n : Nat} {g : Nat → Int32} (hi : i < 5) (hn : n ≤ 10) (hg : ∀ j, j < n → σ 191 j = g j) (x : Int32) (Q : Int32 → zS → Prop) : ZC (d + 2) 167 [.ref 0, .int (nI i), .int x, .int (nI n)] σ Q = Q (spr (σ 185 i) (σ 186 i) g x n) σ := by
  refine s_of (fun Q h => k_167_0 ?_) Q
  refine z_for (F := n) (P := fun k => Z (d + 1) 167 Q 6 [.ref 0, .int (nI i), .int x, .int (nI n), .int (spr (σ 185 i) (σ 186 i) g x k), .int (nI k)] [] σ) (fun k hk ih => ?_) ?_
  · refine k_167_6 ?_
    rw [if_pos (nI_lt hk (by omega)), if_pos (show nI k < Int32.ofNat 10 from nI_lt (b := 10) (by omega) (by decide)), if_pos (zin_nI (by omega) (by decide)), c_price hi, zcl (by omega), hg k hk, show nI k + (1 : Int32) = nI (k + 1) from nI_add k 1]
    exact ih
  · refine k_167_6 ?_
    rw [if_neg (nI_nlt (Nat.le_refl _) (by omega))]
    exact h
def bpr (p : Nat → Int32) : Nat → Int32 × Int32
  | 0 => (0, p 0)
  | s + 1 => if p (s + 1) < (bpr p s).2 then (nI (s + 1), p (s + 1)) else bpr p s
theorem bpr_1 (p : Nat → Int32) (s : Nat) : bpr p (s + 1) = if p (s + 1) < (bpr p s).2 then (nI (s + 1), p (s + 1)) else bpr p s := rfl
theorem i_max (x : Int32) : x < 2147483647 ∨ x = 2147483647 := by
  by_cases h : x < 2147483647
  · exact Or.inl h
  · right
    apply Int32.toInt_inj.mp
    rw [Int32.lt_iff_toInt_lt] at h
    have e : (2147483647 : Int32).toInt = 2147483647 := by decide
    rw [e] at h ⊢
    have := Int32.toInt_lt x
    omega
theorem ixN_s {k : Nat} (h : k ≠ 0) : ixN k = nI (k - 1) := if_neg h
theorem trd_00 {c : MC} {j : Int32} {t : Nat} {r : Nat → Int32} (h9 : c.1 ≤ 9) (h : WR c.1 t r) : (stR c j (trd r 0 0)).1 = (stR c j r).1 := by
  by_cases hF : c.1 = 0
  · have e : ∀ r', (stR c j r').1 = -1 := fun r' => sW_away h9 300 0 r' 0 (fun f hf => absurd hf (by omega))
    rw [e, e]
  · obtain ⟨n, hn, e⟩ := h.2.1 0 (by omega)
    unfold trd
    rw [e, (mxn n hn).2.1, ← e, upd_self]
theorem Ctx.hWR {c : MC} {l : List Int32} {t : Nat} {σ : zS} (h : Ctx c l t σ) : WR c.1 t (σ 215) := h.2.2.2.2.2.2.2.2.1
theorem Fr.rXC {σ σ' : zS} (h : Fr pRS σ σ') : Fr scR σ σ' := Fr.sRS h
theorem call_best {d e b : Nat} {σ : zS} (x : Int32) (h : Inv b σ) (hb : b < 90000000) : Both (d + 8) 120 [.ref 0, .int x] (e + 229) 261 [.ref 214, .int x] b σ := by
  obtain ⟨c, l, t, ht, hc⟩ := h.ctx
  have h9 := hc.h9
  obtain ⟨k, hk, k1, k2, k3⟩ := h.hcrew
  rcases crewC x (k := k) (by omega) with hx | ⟨i, hi, rfl⟩
  · refine both_q h (-1) none (fun Q hq => ?_) (fun σ3 f3 Q hq => ?_)
    · refine k_120_0 ?_
      rw [k1, s_isInP0 (by omega) hx, if_pos rfl]
      exact hq σ Fr.rf
    · refine k_261_0 ?_
      rw [(f3 214 43 (by decide)).trans k2, s_inP0 (by omega) hx, if_pos rfl]
      exact hq _ fr12
  obtain ⟨u, v, y, hu, hv, hy, e1, e2, e3, e4, e5, e6⟩ := k3 i hi
  generalize hw : (fun k => if k = 0 then (stR c (σ 214 4) (σ 215)).1 else (stR c (σ 214 4) (trd (σ 215) (k - 1) 3)).1) = w
  have hw0 : (stR c (σ 214 4) (σ 215)).1 = w 0 := congrFun hw 0
  have hwk : ∀ k, k ≠ 0 → (stR c (σ 214 4) (trd (σ 215) (k - 1) 3)).1 = w k := fun k hk => (if_neg hk).symm.trans (congrFun hw k)
  generalize hn : (gth w (c.1 + 1)).1 = n
  generalize hg : (gth w (c.1 + 1)).2 = g
  have hn10 : n ≤ 10 := by have := gth_le w (c.1 + 1); omega
  generalize hp : (fun s => spr (nI v) (nI y) g (nI s) n) = p
  have hpk : ∀ s, spr (nI v) (nI y) g (nI s) n = p s := fun s => congrFun hp s
  refine both_q h (if n = 0 then -2 else (bpr p 299).1) (if n = 0 then none else some (2, tv2 (bpr p 299).2 (nI n))) (fun Q hq => ?_) (fun σ3 f3 Q hq => ?_)
  · refine k_120_0 ?_
    rw [k1, s_isInP1 (by omega) hi, if_neg (by decide)]
    have hloop := z_for (F := c.1 + 1) (P := fun k => ∀ w4 w5 w6 σ1, Fr scC σ σ1 → (∀ j, j < (gth w k).1 → σ1 191 j = (gth w k).2 j) → Z (d + 7) 120 Q 23 [.ref 0, .int (nI i), .int (nI (gth w k).1), .int (ixN k), w4, w5, w6] [] σ1) (fun k hk ih w4 w5 w6 σ1 f1 g1 => ?_) (fun w4 w5 w6 σ1 f1 g1 => ?_)
    · exact hloop _ _ _ σ Fr.rf (fun j hj => absurd hj (Nat.not_lt_zero j))
    · refine k_120_23 ?_
      have hle := gth_le w k
      have hlt : ixN k < σ1 14 3 := by
        rw [(tC_14 f1.cT).trans hc.h14]
        by_cases h0 : k = 0
        · rw [h0]; exact Int32.lt_of_lt_of_le (show (-1 : Int32) < 0 by decide) (i_le_iff.mpr (nI_pos (by omega)))
        · rw [ixN_s h0]; exact nI_lt (by omega) (by omega)
      rw [if_pos hlt]
      have ih2 := fun w5 w6 σ1 => ih (.int (w k)) w5 w6 σ1
      rw [gth_1] at ih2
      have go : ∀ σ2, Fr sX σ1 σ2 → (if w k = -1 then Z (d + 7) 120 Q 23 [.ref 0, .int (nI i), .int (nI (gth w k).1), .int (ixN k + 1), .int (w k), w5, w6] [] σ2 else (if zin (nI (gth w k).1) 10 = true then Z (d + 7) 120 Q 23 [.ref 0, .int (nI i), .int (nI (gth w k).1 + 1), .int (ixN k + 1), .int (w k), w5, w6] [] (zup σ2 191 (nI (gth w k).1).toNatClampNeg (w k)) else False)) := by
        intro σ2 f2
        have q191 : ∀ j, σ2 191 j = σ1 191 j := fun j => f2 191 j (by simp [sX])
        rw [ixN_1]
        by_cases hz : w k = -1
        · rw [if_pos hz] at ih2 ⊢
          exact ih2 _ _ σ2 (Fr.tr f1 f2.sXC) (fun j hj => (q191 j).trans (g1 j hj))
        · rw [if_neg hz] at ih2 ⊢
          rw [if_pos (zin_nI (by omega) (by decide)), zcl (by omega), show nI (gth w k).1 + (1 : Int32) = nI ((gth w k).1 + 1) from nI_add _ 1]
          refine ih2 _ _ _ (Fr.tr f1 (Fr.tr f2.sXC (Fr.up (sc_191 _)))) (fun j hj => ?_)
          simp (disch := omega) only [zup_eq, zput_app, ↓reduceIte]
          by_cases hjn : j = (gth w k).1
          · subst hjn; rw [upd_eq, upd_eq]
          · have hj : j < (gth w k).1 + 1 := hj
            rw [upd_ne hjn, upd_ne hjn, q191 j]; exact g1 j (by omega)
      by_cases h0 : k = 0
      · rw [show ixN k = -1 from if_pos h0] at go ⊢
        refine c_stX0 hc f1.cT 3 (by omega) (fun σ2 f2 => ?_)
        rw [hw0, show w 0 = w k from by rw [h0]]
        exact go σ2 f2
      · rw [ixN_s h0] at go ⊢
        refine c_stX1 hc f1.cT (by omega) 3 (by omega) (fun σ2 f2 => ?_)
        rw [hwk k h0]
        exact go σ2 f2
    · refine k_120_23 ?_
      rw [hn] at g1 ⊢
      rw [hg] at g1
      rw [(tC_14 f1.cT).trans hc.h14, show ixN (c.1 + 1) = nI c.1 from if_neg (by omega), if_neg (nI_nlt (Nat.le_refl _) (by omega))]
      by_cases hz : n = 0
      · rw [if_pos hz, if_pos hz] at hq
        rw [hz, if_pos (show nI 0 = (0 : Int32) from rfl)]
        exact hq σ1 f1
      · rw [if_neg hz, if_neg hz] at hq
        rw [if_neg (fun q => hz (by
          have h := nI_ltI (a := 0) (b := n) (by decide) (by omega)
          rw [q] at h
          rcases Nat.eq_zero_or_pos n with h2 | h2
          · exact h2
          · exact absurd (h.mpr h2) (by decide)))]
        have q2 : σ1 185 i = nI v := (f1 185 i (by simp [scC, scr])).trans e2
        have q3 : σ1 186 i = nI y := (f1 186 i (by simp [scC, scr])).trans e3
        rw [c_priceAll (by omega) hn10 g1, q2, q3, show spr (nI v) (nI y) g 0 n = p 0 from hpk 0]
        have hl2 := z_for (F := 299) (P := fun s => ∀ w6, Z (d + 7) 120 Q 86 [.ref 0, .int (nI i), .int (nI n), .int (bpr p s).1, .int (bpr p s).2, .int (nI (s + 1)), w6] [] σ1) (fun s hs ih w6 => ?_) (fun w6 => ?_)
        · exact hl2 _
        · refine k_120_86 ?_
          rw [if_pos (show nI (s + 1) < (300 : Int32) from nI_lt (b := 300) (by omega) (by decide)), c_priceAll (by omega) hn10 g1, q2, q3, hpk, show nI (s + 1) + (1 : Int32) = nI (s + 1 + 1) from nI_add _ 1]
          have ih2 := ih (.int (p (s + 1)))
          rw [bpr_1] at ih2
          by_cases hq2 : p (s + 1) < (bpr p s).2
          · rw [if_pos hq2] at ih2 ⊢; exact ih2
          · rw [if_neg hq2] at ih2 ⊢; exact ih2
        · refine k_120_86 ?_
          rw [if_neg (by decide)]
          refine c_tell2 (fun σ2 f2 t2 => ?_)
          exact hq σ2 ⟨by decide, Fr.tr f1.cT f2.sTC, t2⟩
  · refine k_261_0 ?_
    rw [(f3 214 43 (by decide)).trans k2, s_inP1 (by omega) hi, if_neg (by decide)]
    have hR : ∀ σ4, Fr tR σ3 σ4 → σ4 214 1 = nI c.1 := fun σ4 f4 => (f4 214 1 (by decide)).trans ((f3 214 1 (by decide)).trans hc.hR)
    have q231 : ∀ σ6, Fr tR σ3 σ6 → ∀ n, σ6 231 n = σ 231 n := fun σ6 f6 n => (f6 231 n (by simp [tR, scrT, scr, dTold])).trans (f3 231 n (by simp [tC]))
    have hloop := z_for (F := c.1 + 1) (P := fun k => ∀ w4 w5 w6 w7 σ1, Fr scR σ3 σ1 → (∀ j, j < (gth w k).1 → σ1 232 j = (gth w k).2 j) → Z (e + 228) 261 Q 25 [.ref 214, .int (nI i), .int (nI (gth w k).1), .int (ixN k), w4, w5, w6, w7] [] σ1) (fun k hk ih w4 w5 w6 w7 σ1 f1 g1 => ?_) (fun w4 w5 w6 w7 σ1 f1 g1 => ?_)
    · exact hloop _ _ _ _ _ fr12 (fun j hj => absurd hj (Nat.not_lt_zero j))
    · refine k_261_25 ?_
      have hle := gth_le w k
      have hlt : ixN k < σ1 214 1 := by
        rw [hR σ1 f1.rT]
        by_cases h0 : k = 0
        · rw [h0]; exact Int32.lt_of_lt_of_le (show (-1 : Int32) < 0 by decide) (i_le_iff.mpr (nI_pos (by omega)))
        · rw [ixN_s h0]; exact nI_lt (by omega) (by omega)
      rw [if_pos hlt]
      have ih2 := fun w5 w6 w7 σ1 => ih (.int (w k)) w5 w6 w7 σ1
      rw [gth_1] at ih2
      have go : ∀ σ2, Fr pRS σ1 σ2 → (if w k = -1 then Z (e + 228) 261 Q 25 [.ref 214, .int (nI i), .int (nI (gth w k).1), .int (ixN k + 1), .int (w k), w5, w6, w7] [] σ2 else (if zin (nI (gth w k).1) 10 = true then Z (e + 228) 261 Q 25 [.ref 214, .int (nI i), .int (nI (gth w k).1 + 1), .int (ixN k + 1), .int (w k), w5, w6, w7] [] (zup σ2 232 (nI (gth w k).1).toNatClampNeg (w k)) else False)) := by
        intro σ2 f2
        have q232 : ∀ j, σ2 232 j = σ1 232 j := fun j => f2 232 j (by simp [pRS, pR])
        rw [ixN_1]
        by_cases hz : w k = -1
        · rw [if_pos hz] at ih2 ⊢
          exact ih2 _ _ _ σ2 (Fr.tr f1 f2.rXC) (fun j hj => (q232 j).trans (g1 j hj))
        · rw [if_neg hz] at ih2 ⊢
          rw [if_pos (zin_nI (by omega) (by decide)), zcl (by omega), show nI (gth w k).1 + (1 : Int32) = nI ((gth w k).1 + 1) from nI_add _ 1]
          refine ih2 _ _ _ _ (Fr.tr f1 (Fr.tr f2.rXC (Fr.up (sr_232 _)))) (fun j hj => ?_)
          simp (disch := omega) only [zup_eq, zput_app, ↓reduceIte]
          by_cases hjn : j = (gth w k).1
          · subst hjn; rw [upd_eq, upd_eq]
          · have hj : j < (gth w k).1 + 1 := hj
            rw [upd_ne hjn, upd_ne hjn, q232 j]; exact g1 j (by omega)
      by_cases h0 : k = 0
      · rw [show ixN k = -1 from if_pos h0] at go ⊢
        rw [if_pos rfl]
        refine r_stX (f := 0) hc f3 f1.rT (by decide) 0 (by omega) (fun σ2 f2 => ?_)
        rw [trd_00 h9 hc.hWR, hw0, show w 0 = w k from by rw [h0]]
        exact go σ2 f2
      · rw [ixN_s h0] at go ⊢
        rw [if_neg (nI_ne1 (by omega))]
        refine r_stX hc f3 f1.rT (by omega) 3 (by omega) (fun σ2 f2 => ?_)
        rw [hwk k h0]
        exact go σ2 f2
    · refine k_261_25 ?_
      rw [hn] at g1 ⊢
      rw [hg] at g1
      rw [hR σ1 f1.rT, show ixN (c.1 + 1) = nI c.1 from if_neg (by omega), if_neg (nI_nlt (Nat.le_refl _) (by omega))]
      by_cases hz : n = 0
      · rw [if_pos hz, if_pos hz] at hq
        rw [hz, if_pos (show nI 0 = (0 : Int32) from rfl)]
        exact hq σ1 f1
      · rw [if_neg hz, if_neg hz] at hq
        rw [if_neg (fun q => hz (by
          have h := nI_ltI (a := 0) (b := n) (by decide) (by omega)
          rw [q] at h
          rcases Nat.eq_zero_or_pos n with h2 | h2
          · exact h2
          · exact absurd (h.mpr h2) (by decide)))]
        have inner : ∀ s x3 x4 w6 w7, s < 300 → (if p s < x4 then Z (e + 228) 261 Q 98 [.ref 214, .int (nI i), .int (nI n), .int (nI s), .int (p s), .int (nI (s + 1)), .int (p s), .int (nI n)] [] σ1 else Z (e + 228) 261 Q 98 [.ref 214, .int (nI i), .int (nI n), .int x3, .int x4, .int (nI (s + 1)), .int (p s), .int (nI n)] [] σ1) → Z (e + 228) 261 Q 98 [.ref 214, .int (nI i), .int (nI n), .int x3, .int x4, .int (nI s), w6, w7] [] σ1 := by
          intro s x3 x4 w6 w7 hs hk2
          refine k_261_98 ?_
          rw [if_pos (show nI s < (300 : Int32) from nI_lt (b := 300) hs (by decide))]
          refine z_for (F := n) (P := fun j => Z (e + 228) 261 Q 112 [.ref 214, .int (nI i), .int (nI n), .int x3, .int x4, .int (nI s), .int (spr (nI v) (nI y) g (nI s) j), .int (nI j)] [] σ1) (fun j hj ih => ?_) ?_
          · refine k_261_112 ?_
            rw [if_pos (nI_lt hj (by omega)), if_pos (zin_nI (by omega) (by decide)), zcl (by omega), g1 j hj, r_costOf (by omega), q231 σ1 f1.rT, q231 σ1 f1.rT, e5, e6, show nI j + (1 : Int32) = nI (j + 1) from nI_add _ 1]
            rw [spr_1] at ih
            exact ih
          · refine k_261_112 ?_
            rw [if_neg (nI_nlt (Nat.le_refl _) (by omega)), hpk, show nI s + (1 : Int32) = nI (s + 1) from nI_add _ 1]
            exact hk2
        have hl2 := z_for (F := 299) (P := fun s => ∀ w6 w7, Z (e + 228) 261 Q 98 [.ref 214, .int (nI i), .int (nI n), .int (bpr p s).1, .int (bpr p s).2, .int (nI (s + 1)), w6, w7] [] σ1) (fun s hs ih w6 w7 => ?_) (fun w6 w7 => ?_)
        · refine inner 0 0 2147483647 _ _ (by decide) ?_
          rcases i_max (p 0) with hm | hm
          · rw [if_pos hm]; exact hl2 _ _
          · rw [if_neg (by rw [hm]; decide)]
            rw [show (2147483647 : Int32) = (bpr p 0).2 from hm.symm]
            exact hl2 _ _
        · refine inner (s + 1) _ _ _ _ (by omega) ?_
          have ih2 := ih (.int (p (s + 1))) (.int (nI n))
          rw [bpr_1] at ih2
          by_cases hq2 : p (s + 1) < (bpr p s).2
          · rw [if_pos hq2] at ih2 ⊢; exact ih2
          · rw [if_neg hq2] at ih2 ⊢; exact ih2
        · refine k_261_98 ?_
          rw [if_neg (by decide)]
          generalize bpr p 299 = B at hq ⊢
          refine r_tell2 (g := fun _ => nI n) (K := fun _ s => Q B.1 s) (fun _ _ => rfl) (fun σ6 f6 t6 => ?_)
          exact hq σ6 ⟨Fr.tr f1.rT f6.sTR, t6⟩
