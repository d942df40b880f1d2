/-! the shortest way: the class measures -/
def dlN (c : MC) (o : Nat) : Nat := (c.2.1 o).toNatClampNeg
def dlOk (c : MC) : Prop := ∀ o, o < c.1 → c.2.1 o = nI (dlN c o) ∧ 1 ≤ dlN c o ∧ dlN c o ≤ 9
theorem Inv.hdl {b t : Nat} {σ : zS} {c : MC} {l : List Int32} (h : Inv b σ) (hc : Ctx c l t σ) : dlOk c := by
  obtain ⟨F, l', W, hw, -⟩ := h
  have h9 := hc.h9
  have hFF : F = c.1 := by
    have := hw.2.1.symm.trans hc.h14
    have h2 := hw.1
    exact (nI_eq (by omega) (by omega)).mp this
  subst hFF
  intro o ho
  obtain ⟨n, n1, n2, n3⟩ := hw.2.2.2.2 o ho
  have e : c.2.1 o = nI n := by rw [← hc.2.2.2.2.2.2.2.1.2.1]; exact n3
  unfold dlN
  rw [e, nI_clamp (by omega)]
  exact ⟨rfl, n1, n2⟩
/-- o can catch it from f -/
def eP (c : MC) (r : Nat → Int32) (o f : Nat) : Bool := !zb (r 45) f && (!zb (r 45) o && zb (sg (nI c.1) c.2.2.1 o) f)
def wP (c : MC) (o _f : Nat) : Nat := dlN c o
def tI (x : Nat) : Int32 := if x < 1000000 then nI x else -1
theorem tI_lt {x : Nat} (h : x < 1000000) : tI x = nI x := if_pos h
theorem tI_ge {x : Nat} (h : ¬ x < 1000000) : tI x = -1 := if_neg h
def TA (F : Nat) (u : Nat → Nat) (σ : zS) : Prop := ∀ f, f < F → σ 191 f = tI (u f)
def p191 (o _i : Nat) : Bool := decide (o = 191)
theorem TA.up {F f x : Nat} {u : Nat → Nat} {σ : zS} {y : Int32} (h : TA F u σ) (hy : y = tI x) : TA F (upN u f x) (zup σ 191 f y) := fun g hg => by
  rw [zup_eq, zput_app, if_pos rfl]
  by_cases q : g = f
  · rw [q, upd_eq, upN_eq, hy]
  · rw [upd_ne q, upN_ne q]; exact h g hg
theorem c_present {d : Nat} {σ : zS} {c : MC} {r : Nat → Int32} {f : Nat} (hc : CW 14 c σ) (h45 : σ 17 5 = r 45) (hf : f < c.1) (Q : Int32 → zS → Prop) : ZC (d + 4) 135 [.ref 0, .int (nI f)] σ Q = Q (b2i (!zb (r 45) f)) σ := c_isPresent hc.1 hc.2.1 h45 hf Q
theorem c_isStep {d : Nat} {σ : zS} {c : MC} {r : Nat → Int32} {f o : Nat} (hc : CW 14 c σ) (h45 : σ 17 5 = r 45) (hf : f < c.1) (ho : o < c.1) (Q : Int32 → zS → Prop) : ZC (d + 5) 162 [.ref 0, .int (nI f), .int (nI o)] σ Q = Q (b2i (eP c r o f)) σ := by
  have h9 := hc.2.1
  refine s_of (fun Q hq => k_162_0 ?_) Q
  unfold eP at hq
  rw [c_present hc h45 hf, c_present hc h45 ho, c_sight14 (by omega), hc.1, sg_congr (e := nI c.1) (hc.2.2.1 o ho).2, s_hasN _ (by omega)]
  cases h1 : zb (r 45) f
  · rw [h1] at hq
    rw [if_neg (show ¬ b2i (!false) = 0 by decide)]
    cases h2 : zb (r 45) o
    · rw [h2] at hq
      rw [if_neg (show ¬ b2i (!false) = 0 by decide)]
      cases h3 : zb (sg (nI c.1) c.2.2.1 o) f
      · rw [h3] at hq
        rw [if_pos (show b2i false = 0 from rfl)]; exact hq
      · rw [h3] at hq
        rw [if_neg (show ¬ b2i true = 0 by decide)]; exact hq
    · rw [h2] at hq
      rw [if_pos (show b2i (!true) = 0 from rfl)]; exact hq
  · rw [h1] at hq
    rw [if_pos (show b2i (!true) = 0 from rfl)]; exact hq
/-- what the rounds keep -/
def MU (c : MC) (v u : Nat → Nat) (s B : Nat) : Prop := u s = 0 ∧ (∀ f, f < c.1 → v f ≤ u f ∧ u f ≤ 1000000 ∧ (u f < 1000000 → u f ≤ 9 * B))
def MC1 (c : MC) (v u : Nat → Nat) (k : Nat) : Prop := ∀ f, f < c.1 → v f < 1000000 → rkN v c.1 (v f) ≤ k → u f = v f
theorem MU.le {c : MC} {v u : Nat → Nat} {s B B' : Nat} (h : MU c v u s B) (hB : B ≤ B') : MU c v u s B' :=
  ⟨h.1, fun f hf => ⟨(h.2 f hf).1, (h.2 f hf).2.1, fun q => by have := (h.2 f hf).2.2 q; omega⟩⟩
/-- a pair is looked at: v stays below, and the pair is in order behind it -/
theorem m_step {c : MC} {r : Nat → Int32} {v u : Nat → Nat} {s B k o f : Nat} (hdl : dlOk c) (h2 : DS c.1 (eP c r) (wP c) v) (hs : s < c.1) (hu : MU c v u s B) (hm : MC1 c v u k) (ho : o < c.1) (hf : f < c.1) (hE : eP c r o f = true) (huo : u o < 1000000) (hB : B ≤ 1000) :
    let x := if u f ≤ u o + dlN c o then u f else u o + dlN c o
    MU c v (upN u f x) s (B + 1) ∧ MC1 c v (upN u f x) k ∧ x ≤ u o + dlN c o ∧ x < 1000000 ∧ (∀ g, upN u f x g ≤ u g) := by
  obtain ⟨d1, d2, d3⟩ := hdl o ho
  obtain ⟨u1, u2⟩ := hu
  obtain ⟨o1, o2, o3⟩ := u2 o ho
  obtain ⟨f1, f2, f3⟩ := u2 f hf
  have hob := o3 huo
  have hst : v f ≤ v o + dlN c o := h2 o ho f hf hE (by omega)
  dsimp only
  have hx : ∀ x, x = (if u f ≤ u o + dlN c o then u f else u o + dlN c o) → v f ≤ x ∧ x ≤ u f ∧ x ≤ u o + dlN c o := fun x hx => by
    by_cases q : u f ≤ u o + dlN c o
    · rw [if_pos q] at hx; omega
    · rw [if_neg q] at hx; omega
  obtain ⟨x1, x2, x3⟩ := hx _ rfl
  generalize (if u f ≤ u o + dlN c o then u f else u o + dlN c o) = x at x1 x2 x3 ⊢
  refine ⟨⟨?_, fun g hg => ?_⟩, fun g hg hv hr => ?_, x3, by omega, fun g => ?_⟩
  · by_cases q : s = f
    · subst q; rw [upN_eq]; omega
    · rw [upN_ne q]; exact u1
  · by_cases q : g = f
    · rw [q, upN_eq]; exact ⟨x1, by omega, fun _ => by omega⟩
    · rw [upN_ne q]
      obtain ⟨g1, g2, g3⟩ := u2 g hg
      exact ⟨g1, g2, fun q2 => by have := g3 q2; omega⟩
  · have := hm g hg hv hr
    by_cases q : g = f
    · subst q; rw [upN_eq]; omega
    · rw [upN_ne q]; exact this
  · by_cases q : g = f
    · rw [q, upN_eq]; exact x2
    · rw [upN_ne q]; exact Nat.le_refl _
theorem m_round {c : MC} {r : Nat → Int32} {v u : Nat → Nat} {s k : Nat} (hdl : dlOk c) (h1 : DW c.1 (eP c r) (wP c) s v) (h2 : DS c.1 (eP c r) (wP c) v) (hu : ∀ f, f < c.1 → v f ≤ u f) (hus : u s = 0) (hall : ∀ o, o < c.1 → ∀ f, f < c.1 → eP c r o f = true → v o < 1000000 → rkN v c.1 (v o) ≤ k → u f ≤ v o + dlN c o) : MC1 c v u (k + 1) := fun f hf hv hr => by
  by_cases hfs : f = s
  · rw [hfs, hus, h1.1]
  · obtain ⟨o, k1, k2, k3, k4⟩ := d_tight h1 h2 hf hfs hv
    have k4' : v f = v o + dlN c o := k4
    have d2 := (hdl o k1).2.1
    have hlt := rk_lt (v := v) (F := c.1) (f := f) (o := o) k1 (by omega)
    have := hall o k1 f hf k2 k3 (by omega)
    have := hu f hf
    omega
theorem m_zero {c : MC} {r : Nat → Int32} {v u : Nat → Nat} {s : Nat} (hdl : dlOk c) (h1 : DW c.1 (eP c r) (wP c) s v) (h2 : DS c.1 (eP c r) (wP c) v) (hs : s < c.1) (hus : u s = 0) : MC1 c v u 0 := fun f hf hv hr => by
  by_cases hfs : f = s
  · rw [hfs, hus, h1.1]
  · obtain ⟨o, k1, k2, k3, k4⟩ := d_tight h1 h2 hf hfs hv
    have k4' : v f = v o + dlN c o := k4
    have d2 := (hdl o k1).2.1
    have hlt := rk_lt (v := v) (F := c.1) (f := f) (o := o) k1 (by omega)
    omega
theorem s_fillM {d : Nat} {σ : zS} {Q : Int32 → zS → Prop} (h : ∀ σ', Fr p191 σ σ' → (∀ i, i < 10 → σ' 191 i = -1) → Q 0 σ') : ZC (d + 1) 5 [.ref 191, .int (-1)] σ Q := by
  refine k_5_0_i191 ?_
  have hz := z_for (F := 10) (P := fun k => ∀ σ1, Fr p191 σ σ1 → (∀ i, i < k → σ1 191 i = -1) → Z d 5 Q 5 [.ref 191, .int (-1), .int (nI k), .int (nI 10)] [] σ1) (fun k hk ih => ?_) ?_
  · exact hz σ Fr.rf (fun i hi => absurd hi (Nat.not_lt_zero i))
  · intro σ1 f1 e1
    refine k_5_5_i191 ?_
    simp (disch := omega) only [zup_eq, zput_app, zput_twice, upd_same, nI_1, za2, zA2, zm2, za3, zA3, zm3, za4, zA4, zm4, za9, zA9, zm9, za10, zA10, zm10, za18, zA18, zm18, za27, zA27, zm27, za36, zA36, zm36, za48, zA48, zm48, za288, zA288, zm288, zcl, zinT, upd_ne, upd_eq, zlt, znlt, zl2, zn2_, zl3, zn3_, zl5, zn5_, zl9, zn9_, zl10, zn10_, zl16, zn16_, zl20, zn20_, zl40, zn40_, zl60, zn60_, zl76, zn76_, zl80, zn80_, zl288, zn288_, zl300, zn300_, zneg, Nat.reduceEqDiff, Nat.reduceAdd, ↓reduceIte]
    refine ih _ (Fr.tr f1 (Fr.put (fun i q => by simp [p191] at q))) (fun i hi => ?_)
    simp only [zput_app, ↓reduceIte]
    by_cases h2 : i = k
    · rw [h2, upd_eq]
    · rw [upd_ne h2]; exact e1 i (by omega)
  · intro σ1 f1 e1
    refine k_5_5_i191 ?_
    rw [if_neg (by decide)]
    exact h σ1 f1 e1
