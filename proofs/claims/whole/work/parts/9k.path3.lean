/-! the shortest way: the reference's rounds -/
def p229 (o _i : Nat) : Bool := decide (o = 229)
def FB (F : Nat) (v : Nat → Nat) (σ : zS) : Prop := ∀ f, f < F → σ 229 f = nI (v f)
theorem FB.up {F f x : Nat} {v : Nat → Nat} {σ : zS} (h : FB F v σ) : FB F (upN v f x) (zup σ 229 f (nI x)) := fun g hg => by
  rw [zup_eq, zput_app, if_pos rfl]
  by_cases q : g = f
  · rw [q, upd_eq, upN_eq]
  · rw [upd_ne q, upN_ne q]; exact h g hg
def RG (c : MC) (r : Nat → Int32) (σ : zS) : Prop := σ 214 1 = nI c.1 ∧ σ 215 = r ∧ σ 217 = c.2.2.1 ∧ σ 216 = c.2.1
theorem RG.fr {c : MC} {r : Nat → Int32} {σ σ' : zS} (h : RG c r σ) (h1 : σ' 214 1 = σ 214 1) (h2 : ∀ o i, 215 ≤ o → o ≤ 217 → σ' o i = σ o i) : RG c r σ' :=
  ⟨h1.trans h.1, (funext fun i => h2 215 i (by decide) (by decide)).trans h.2.1, (funext fun i => h2 217 i (by decide) (by decide)).trans h.2.2.1, (funext fun i => h2 216 i (by decide) (by decide)).trans h.2.2.2⟩
theorem RG.f9 {c : MC} {r : Nat → Int32} {σ σ' : zS} (h : RG c r σ) (hf : Fr p229 σ σ') : RG c r σ' := h.fr (hf 214 1 (by decide)) (fun o i q1 q2 => hf o i (decide_eq_false (by omega)))
theorem r_leads {d : Nat} {σ : zS} {c : MC} {r : Nat → Int32} {f o : Nat} (h9 : c.1 ≤ 9) (h : RG c r σ) (hf : f < c.1) (ho : o < c.1) (Q : Int32 → zS → Prop) : ZC (d + 3) 244 [.ref 214, .int (nI f), .int (nI o)] σ Q = Q (b2i (eP c r o f)) σ := by
  obtain ⟨g1, g2, g3, -⟩ := h
  refine s_of (fun Q hq => k_244_0 ?_) Q
  unfold eP at hq
  rw [g2, s_hasR _ (by omega), g2, s_hasR _ (by omega), r_sight (by omega), g1, g3, s_hasR _ (by omega)]
  cases h1 : zb (r 45) f
  · rw [h1] at hq
    rw [if_pos (show b2i false = 0 from rfl)]
    cases h2 : zb (r 45) o
    · rw [h2] at hq
      rw [if_pos (show b2i false = 0 from rfl)]
      cases h3 : zb (sg (nI c.1) c.2.2.1 o) f
      · rw [h3] at hq
        rw [if_pos (show b2i false = 0 from rfl)]; exact hq
      · rw [h3] at hq
        rw [if_neg (show ¬ b2i true = 0 by decide)]; exact hq
    · rw [h2] at hq
      rw [if_neg (show ¬ b2i true = 0 by decide)]; exact hq
  · rw [h1] at hq
    rw [if_neg (show ¬ b2i true = 0 by decide)]; exact hq
theorem r_pathStep {d s : Nat} {x1 : Int32} {c : MC} {r : Nat → Int32} (h9 : c.1 ≤ 9) (hdl : dlOk c) {v0 : Nat → Nat} {Q : Int32 → zS → Prop} {σ0 : zS} (hg : RG c r σ0)
    (hend0 : ∀ σ', Fr p229 σ0 σ' → FB c.1 v0 σ' → DS c.1 (eP c r) (wP c) v0 → ∀ w4 w5, Z (d + 3) 243 Q 87 [.ref 214, .int x1, .int (nI s), .int 0, w4, w5] [] σ')
    (hendm : ∀ v σ', Fr p229 σ0 σ' → FB c.1 v σ' → DW c.1 (eP c r) (wP c) s v → sm v c.1 < sm v0 c.1 → ∀ x3 : Int32, x3 ≠ 0 → ∀ w4 w5, Z (d + 3) 243 Q 87 [.ref 214, .int x1, .int (nI s), .int x3, w4, w5] [] σ') :
    ∀ σ', Fr p229 σ0 σ' → FB c.1 v0 σ' → DW c.1 (eP c r) (wP c) s v0 → ∀ w5, Z (d + 3) 243 Q 96 [.ref 214, .int x1, .int (nI s), .int 0, .int 0, w5] [] σ' := by
  have hout := z_for (F := c.1) (P := fun f => ∀ v σ1 (m : Int32) w5, Fr p229 σ0 σ1 → FB c.1 v σ1 → DW c.1 (eP c r) (wP c) s v → (m = 0 → v = v0 ∧ ∀ f', f' < f → ∀ o, o < c.1 → eP c r o f' = true → v o < 1000000 → v f' ≤ v o + dlN c o) → (m ≠ 0 → sm v c.1 < sm v0 c.1) → Z (d + 3) 243 Q 96 [.ref 214, .int x1, .int (nI s), .int m, .int (nI f), w5] [] σ1) (fun f hf ih => ?_) ?_
  · intro σ' f' a' hd w5
    exact hout v0 σ' 0 w5 f' a' hd (fun _ => ⟨rfl, fun f'' q => absurd q (Nat.not_lt_zero _)⟩) (fun q => absurd rfl q)
  · intro v σ1 m w5 f1 a1 hd hm0 hm1
    refine k_243_96 ?_
    rw [(hg.f9 f1).1, if_pos (nI_lt hf (by omega))]
    have hin := z_for (F := c.1) (P := fun o => ∀ v σ1 (m : Int32), Fr p229 σ0 σ1 → FB c.1 v σ1 → DW c.1 (eP c r) (wP c) s v → (m = 0 → v = v0 ∧ (∀ f', f' < f → ∀ o, o < c.1 → eP c r o f' = true → v o < 1000000 → v f' ≤ v o + dlN c o) ∧ (∀ o', o' < o → eP c r o' f = true → v o' < 1000000 → v f ≤ v o' + dlN c o')) → (m ≠ 0 → sm v c.1 < sm v0 c.1) → Z (d + 3) 243 Q 108 [.ref 214, .int x1, .int (nI s), .int m, .int (nI f), .int (nI o)] [] σ1) (fun o ho ih2 => ?_) ?_
    · exact hin v σ1 m f1 a1 hd (fun q => ⟨(hm0 q).1, (hm0 q).2, fun o' q => absurd q (Nat.not_lt_zero _)⟩) hm1
    · intro v σ1 m f1 a1 hd hm0 hm1
      have g1 := hg.f9 f1
      refine k_243_108 ?_
      have zo : zin (nI o) 9 = true := zin_nI (by omega) (by decide)
      have zf : zin (nI f) 9 = true := zin_nI (by omega) (by decide)
      simp only [zo, zf, ↓reduceIte]
      rw [g1.1, if_pos (nI_lt ho (by omega)), r_leads h9 g1 hf ho, show nI o + (1 : Int32) = nI (o + 1) from nI_add o 1, zcl (by omega), zcl (by omega)]
      have skip : (eP c r o f = true → v o < 1000000 → v f ≤ v o + dlN c o) → Z (d + 3) 243 Q 108 [.ref 214, .int x1, .int (nI s), .int m, .int (nI f), .int (nI (o + 1))] [] σ1 := fun hs => by
        refine ih2 v σ1 m f1 a1 hd (fun q => ⟨(hm0 q).1, (hm0 q).2.1, fun o' ho' hE hv => ?_⟩) hm1
        by_cases q2 : o' = o
        · rw [q2] at hE hv ⊢; exact hs hE hv
        · exact (hm0 q).2.2 o' (by omega) hE hv
      cases hE : eP c r o f
      · rw [if_pos (show b2i false = 0 from rfl)]
        exact skip (fun q => by rw [hE] at q; cases q)
      · rw [if_neg (show ¬ b2i true = 0 by decide)]
        obtain ⟨d1, d2, d3⟩ := hdl o ho
        have hvf := hd.2.1 f hf
        have hvo := hd.2.1 o ho
        rw [a1 o ho, a1 f hf, g1.2.2.2, d1, nI_add]
        by_cases hlt : v o + dlN c o < v f
        · rw [if_pos (nI_lt hlt (by omega))]
          have hfin : v o < 1000000 := by omega
          obtain ⟨k1, k2⟩ := hd.up ho hE hfin hlt hf
          refine ih2 (upN v f (v o + dlN c o)) _ 1 (Fr.tr f1 (Fr.up rfl)) (a1.up) k1 (fun q => absurd q (by decide)) (fun _ => ?_)
          by_cases q : m = 0
          · have := (hm0 q).1
            rw [this] at k2 ⊢
            exact k2
          · exact Nat.lt_trans k2 (hm1 q)
        · rw [if_neg (nI_nlt (by omega) (by omega))]
          exact skip (fun _ _ => by omega)
    · intro v σ1 m f1 a1 hd hm0 hm1
      refine k_243_108 ?_
      rw [(hg.f9 f1).1, if_neg (nI_nlt (Nat.le_refl _) (by omega)), show nI f + (1 : Int32) = nI (f + 1) from nI_add f 1]
      refine ih v σ1 m _ f1 a1 hd (fun q => ⟨(hm0 q).1, fun f' hf' o ho hE hv => ?_⟩) hm1
      by_cases q2 : f' = f
      · rw [q2] at hE ⊢; exact (hm0 q).2.2 o ho hE hv
      · exact (hm0 q).2.1 f' (by omega) o ho hE hv
  · intro v σ1 m w5 f1 a1 hd hm0 hm1
    refine k_243_96 ?_
    rw [(hg.f9 f1).1, if_neg (nI_nlt (Nat.le_refl _) (by omega))]
    by_cases q : m = 0
    · obtain ⟨q1, q2⟩ := hm0 q
      rw [q]
      rw [q1] at a1 q2
      exact hend0 σ1 f1 a1 (fun o ho f hf hE hv => q2 f hf o ho hE hv) _ _
    · exact hendm v σ1 f1 a1 hd (hm1 q) m q _ _
theorem wP_1 {c : MC} (hdl : dlOk c) : ∀ o f, o < c.1 → f < c.1 → 1 ≤ wP c o f := fun o _ ho _ => (hdl o ho).2.1
theorem r_measure {d s : Nat} {x1 : Int32} {c : MC} {r : Nat → Int32} (h9 : c.1 ≤ 9) (hdl : dlOk c) (hs : s < c.1) {v : Nat → Nat} {σ : zS} (hg : RG c r σ) (hv1 : DW c.1 (eP c r) (wP c) s v) (hv2 : DS c.1 (eP c r) (wP c) v) {Q : Int32 → zS → Prop} (hq : ∀ σ' w4 w5, Fr p229 σ σ' → FB c.1 v σ' → Z (d + 3) 243 Q 87 [.ref 214, .int x1, .int (nI s), .int 0, w4, w5] [] σ') : ∀ w4 w5, Z (d + 3) 243 Q 53 [.ref 214, .int x1, .int (nI s), .int 0, w4, w5] [] σ := by
  have hini := z_for (F := c.1) (P := fun f => ∀ σ1, Fr p229 σ σ1 → (∀ g, g < f → σ1 229 g = nI (d0 s g)) → ∀ w4 w5, Z (d + 3) 243 Q 53 [.ref 214, .int x1, .int (nI s), .int (nI f), w4, w5] [] σ1) (fun f hf ih => ?_) ?_
  · exact fun w4 w5 => hini σ Fr.rf (fun g hg => absurd hg (Nat.not_lt_zero g)) _ _
  · intro σ1 f1 a1 w4 w5
    refine k_243_53 ?_
    rw [(hg.f9 f1).1, if_pos (nI_lt hf (by omega)), show nI f + (1 : Int32) = nI (f + 1) from nI_add f 1, if_pos (zin_nI (by omega) (by decide)), if_pos (zin_nI (by omega) (by decide)), zcl (by omega)]
    have fin : ∀ x : Int32, x = nI (d0 s f) → Z (d + 3) 243 Q 53 [.ref 214, .int x1, .int (nI s), .int (nI (f + 1)), w4, w5] [] (zup σ1 229 f x) := fun x hx => by
      refine ih _ (Fr.tr f1 (Fr.up rfl)) (fun g hg => ?_) _ _
      rw [zup_eq, zput_app, if_pos rfl]
      by_cases q : g = f
      · rw [q, upd_eq, hx]
      · rw [upd_ne q]; exact a1 g (by omega)
    by_cases q : f = s
    · rw [if_pos (by rw [q])]
      exact fin 0 (by unfold d0; rw [if_pos q]; rfl)
    · rw [if_neg (fun q2 => q ((nI_eq (by omega) (by omega)).mp q2))]
      exact fin 1000000 (by unfold d0; rw [if_neg q]; rfl)
  · intro σ1 f1 a1 w4 w5
    refine k_243_53 ?_
    rw [(hg.f9 f1).1, if_neg (nI_nlt (Nat.le_refl _) (by omega))]
    have key : ∀ n v0, sm v0 c.1 ≤ n → ∀ σ2, Fr p229 σ σ2 → FB c.1 v0 σ2 → DW c.1 (eP c r) (wP c) s v0 → ∀ x3 : Int32, x3 ≠ 0 → ∀ w4 w5, Z (d + 3) 243 Q 87 [.ref 214, .int x1, .int (nI s), .int x3, w4, w5] [] σ2 := by
      intro n
      induction n with
      | zero =>
        intro v0 hn σ2 f2 a2 hd x3 hx w4 w5
        refine k_243_87 ?_
        rw [if_neg hx]
        refine r_pathStep h9 hdl (v0 := v0) (σ0 := σ2) (hg.f9 f2) (fun σ3 f3 a3 hs3 w4 w5 => ?_) (fun v3 σ3 f3 a3 hd3 hlt => by omega) σ2 Fr.rf a2 hd _
        exact hq σ3 _ _ (Fr.tr f2 f3) (fun f hf => by rw [a3 f hf, d_uniq (wP_1 hdl) hd hs3 hv1 hv2 hf])
      | succ n ih =>
        intro v0 hn σ2 f2 a2 hd x3 hx w4 w5
        refine k_243_87 ?_
        rw [if_neg hx]
        refine r_pathStep h9 hdl (v0 := v0) (σ0 := σ2) (hg.f9 f2) (fun σ3 f3 a3 hs3 w4 w5 => ?_) (fun v3 σ3 f3 a3 hd3 hlt x3 hx3 w4 w5 => ?_) σ2 Fr.rf a2 hd _
        · exact hq σ3 _ _ (Fr.tr f2 f3) (fun f hf => by rw [a3 f hf, d_uniq (wP_1 hdl) hd hs3 hv1 hv2 hf])
        · exact ih v3 (by omega) σ3 (Fr.tr f2 f3) a3 hd3 x3 hx3 _ _
    exact key _ (d0 s) (Nat.le_refl _) σ1 f1 (fun g hg => a1 g hg) d0_DW 1 (by decide) _ _
