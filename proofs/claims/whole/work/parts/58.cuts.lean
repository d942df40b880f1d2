/-! cuts -/
def oD (f : Nat → Int32) : Option Nat → Int32
  | none => 0
  | some s => f s
theorem diV_cases {c : MC} {r : Nat → Int32} {f : Nat} {x : Int32} : diV c r f x = -2 ∨ ∃ m, m < 400 ∧ diV c r f x = nI m := by
  unfold diV
  rcases dI_cases (c := c) 300 1 (drow r c.1 f (r 45 ||| x)) with hd | ⟨m, hm1, hm2, hd⟩
  · exact Or.inl hd
  · exact Or.inr ⟨m, by omega, hd⟩
theorem vdF {F w s : Nat} {r : Nat → Int32} (h9 : F ≤ 9) (hs : s < 512) (hwb : ∀ i, i < 9 → w.testBit i = true → i < F) (hv : vd w s = true) : InF F (nI s) := by
  intro i hi hz
  rw [zb_nI hi] at hz
  by_cases h : i < 9
  · exact hwb i h ((vd_bit hs).mp hv i h hz)
  · have : s.testBit i = false := Nat.testBit_lt_two_pow (Nat.lt_of_lt_of_le hs (by
      have : 2 ^ 9 ≤ 2 ^ i := Nat.pow_le_pow_right (by decide) (by omega)
      omega))
    rw [this] at hz; cases hz
theorem tb_out {s i : Nat} (hs : s < 512) (h : 9 ≤ i) : s.testBit i = false := Nat.testBit_lt_two_pow (Nat.lt_of_lt_of_le hs (by
  have : 2 ^ 9 ≤ 2 ^ i := Nat.pow_le_pow_right (by decide) h
  omega))
theorem tb_pow {s F i : Nat} (hs : s < 2 ^ F) (h : F ≤ i) : s.testBit i = false := Nat.testBit_lt_two_pow (Nat.lt_of_lt_of_le hs (Nat.pow_le_pow_right (by decide) h))
theorem call_cuts {d e b : Nat} {σ : zS} (x : Int32) (h : Inv b σ) (hb : b < 90000000) : Both (d + 7) 107 [.ref 0, .int x] (e + 228) 240 [.ref 214, .int x] b σ := by
  obtain ⟨c, l, t, ht, hc⟩ := h.ctx
  have h9 := hc.h9
  rcases faceC x h9 with hx | ⟨f, hf, rfl⟩
  · refine both_q h (-1) none (fun Q hq => ?_) (fun σ3 f3 Q hq => ?_)
    · refine k_107_0 ?_
      rw [c_isFace0 hc.h14 hx, if_pos rfl]
      exact hq σ Fr.rf
    · refine k_240_0 ?_
      rw [r_isFace0 (h300 σ3 hc f3) h9 hx, if_pos rfl]
      exact hq _ fr12
  have h215 : ∀ σ3, Fr tC σ σ3 → (zup σ3 214 12 0) 215 = σ 215 := fun σ3 f3 => (tR_215 fr12.rT).trans (tC_215 f3)
  cases ha : zb (σ 215 45) f
  case true =>
    refine both_q h (-3) none (fun Q hq => ?_) (fun σ3 f3 Q hq => ?_)
    · refine k_107_0 ?_
      rw [c_isFace1 hc.h14 h9 hf, if_neg (by decide), hc.h45, s_hasN _ (by omega), ha, if_neg (by decide)]
      exact hq σ Fr.rf
    · refine k_240_0 ?_
      rw [r_isFace1 (h300 σ3 hc f3) h9 hf, if_neg (by decide), h215 σ3 f3, s_hasR _ (by omega), ha, if_neg (by decide)]
      exact hq _ fr12
  have hall := allN c.1 h9
  have hall5 := all512 h9
  have hpos : 0 < 2 ^ c.1 := Nat.two_pow_pos _
  generalize hA : σ 215 45 = A at ha
  have hwz : ∀ i, i < 32 → zb (((zshl 1 (nI c.1) - 1) &&& (A ^^^ (-1))) &&& (zshl 1 (nI f) ^^^ (-1))) i = (decide (i < c.1) && !zb A i && !decide (i = f)) := by
    intro i hi
    rw [zb_and, zb_and, zb_all _ h9 i hi, zb_not hi, zb_not hi, zb_one f (by omega) i hi]
  obtain ⟨w, hw, ew⟩ := i_small (x := ((zshl 1 (nI c.1) - 1) &&& (A ^^^ (-1))) &&& (zshl 1 (nI f) ^^^ (-1))) (fun i h1 h2 => by rw [hwz i h2]; simp; omega)
  have hwt : ∀ i, i < 9 → w.testBit i = (decide (i < c.1) && !zb A i && !decide (i = f)) := by
    intro i hi
    rw [← zb_nI (by omega), ← ew, hwz i (by omega)]
  have hwF : ∀ i, i < 9 → w.testBit i = true → i < c.1 := by
    intro i hi hb'
    rw [hwt i hi] at hb'
    simp only [Bool.and_eq_true, decide_eq_true_eq] at hb'
    exact hb'.1.1
  have hwle : w ≤ 2 ^ c.1 - 1 := by
    have : vd (2 ^ c.1 - 1) w = true := by
      rw [vd_bit hw]
      intro i hi hb'
      have hiF := hwF i hi hb'
      have e1 : zb (zshl 1 (nI c.1) - 1) i = decide (i < c.1) := zb_all c.1 h9 i (by omega)
      rw [hall, zb_nI (by omega)] at e1
      rw [e1]; exact decide_eq_true hiF
    exact vd_le hw this
  generalize hG : (fun s => !decide (diV c (σ 215) f (nI s) = -2)) = G
  have hG1 : ∀ s, G s = !decide (diV c (σ 215) f (nI s) = -2) := fun s => by rw [← hG]
  generalize hO : sC w G 512 0 = O
  refine both_q h (okV (-2) (fun s => nI (pcn s)) O) (okT (fun s => (2, tv2 (nI s) (diV c (σ 215) f (nI s)))) O) (fun Q hq => ?_) (fun σ3 f3 Q hq => ?_)
  · refine k_107_0 ?_
    rw [c_isFace1 hc.h14 h9 hf, if_neg (by decide), hc.h45, hA, s_hasN _ (by omega), ha, if_pos (by decide), c_present14, hc.h14, hc.h45, hA, s_bit, ew]
    have loop : ∀ m k s (σ1 : zS), k + m = 512 → s < 512 → vd w s = true → sC w G m s = O → Fr scC σ σ1 → ∀ w5, Z (d + 6) 107 Q 50 [.ref 0, .int (nI f), .int (nI w), .int (nI s), .int (nI k), w5] [] σ1 := by
      intro m
      induction m with
      | zero =>
        intro k s σ1 hk hs hv hI f1 w5
        refine k_107_50 ?_
        rw [if_neg (show ¬ nI k < 512 from nI_nlt (a := k) (b := 512) (by omega) (by omega))]
        have : O = none := by rw [← hI]; rfl
        rw [this] at hq
        exact hq σ1 f1
      | succ m ih =>
        intro k s σ1 hk hs hv hI f1 w5
        refine k_107_50 ?_
        rw [if_pos (show nI k < 512 from nI_lt (b := 512) (by omega) (by decide)), if_neg (nI_m1 (by omega))]
        refine c_diesWithout hc f1 hf (vdF (r := σ 215) h9 hs hwF hv) (by omega) (fun σ2 f2 => ?_)
        rw [show dI c 300 1 (drow (σ 215) c.1 f (σ 215 45 ||| nI s)) = diV c (σ 215) f (nI s) from rfl]
        unfold sC at hI
        rw [hG1] at hI
        rcases diV_cases (c := c) (r := σ 215) (f := f) (x := nI s) with hd | ⟨mm, hmm, hd⟩
        · rw [hd] at hI ⊢
          rw [if_pos (by decide), c_nextSet hs hw, nI_1]
          simp only [decide_true, Bool.not_true, Bool.false_eq_true, ↓reduceIte] at hI
          rcases nx_cases hw hs with hn | ⟨s2, h1, h2, h3⟩
          · rw [hn]
            rw [if_pos hn] at hI
            have : O = none := by rw [← hI]
            rw [this] at hq
            refine k_107_50 ?_
            by_cases hlt : nI (k + 1) < (512 : Int32)
            · rw [if_pos hlt, if_pos rfl]; exact hq σ2 f2
            · rw [if_neg hlt]; exact hq σ2 f2
          · rw [h2]
            rw [if_neg (by rw [h2]; exact nI_m1 (by omega)), h2, nI_clamp (by omega)] at hI
            exact ih (k + 1) s2 σ2 (by omega) h1 h3 hI f2 _
        · have hne : decide (diV c (σ 215) f (nI s) = -2) = false := by rw [hd]; exact decide_eq_false (nI_m2 (by omega))
          rw [hne] at hI
          have : O = some s := by rw [← hI]; rfl
          rw [this] at hq
          rw [hd, if_neg (nI_pos (by omega)), ← hd]
          refine c_tell2 (fun σ4 f4 t4 => ?_)
          rw [s_bitCount, bc_pcn hs]
          exact hq σ4 ⟨by decide, Fr.tr f2.cT f4.sTC, t4⟩
    exact loop 512 0 0 σ (by decide) (by decide) (vd0 w) hO Fr.rf _
  · refine k_240_0 ?_
    rw [r_isFace1 (h300 σ3 hc f3) h9 hf, if_neg (by decide), h215 σ3 f3, hA, s_hasR _ (by omega), ha, if_pos (by decide)]
    have hRO : rC w G (2 ^ c.1) = O := by
      rw [← hO, search_eq hw]
      have e1 := rC_stop (w := w) G (512 - (w + 1)) (by omega)
      rw [show w + 1 + (512 - (w + 1)) = 512 by omega] at e1
      have e2 := rC_stop (w := w) G (2 ^ c.1 - (w + 1)) (by omega)
      rw [show w + 1 + (2 ^ c.1 - (w + 1)) = 2 ^ c.1 by omega] at e2
      rw [e1, e2]
    have hvd : ∀ s, s < 2 ^ c.1 → vd w s = (!zb (nI s) f && decide (nI s &&& A = 0)) := by
      intro s hs
      have hs5 : s < 512 := by omega
      have hb : ∀ b1 b2 : Bool, (b1 = true ↔ b2 = true) → b1 = b2 := by
        intro b1 b2 hh
        cases b1 <;> cases b2 <;> simp_all
      refine hb _ _ ?_
      rw [vd_bit hs5, Bool.and_eq_true, Bool.not_eq_true', decide_eq_true_iff]
      constructor
      · intro hh
        constructor
        · rw [zb_nI (by omega)]
          cases hz : s.testBit f
          · rfl
          · have := hh f (by omega) hz
            rw [hwt f (by omega)] at this
            simp at this
        · apply zb_ext
          intro i hi
          rw [zb_and, zb_0, zb_nI hi]
          cases hz : s.testBit i
          · rfl
          · by_cases hi9 : i < 9
            · have := hh i hi9 hz
              rw [hwt i hi9] at this
              simp only [Bool.and_eq_true, Bool.not_eq_true'] at this
              rw [this.1.2]; rfl
            · rw [tb_out hs5 (by omega)] at hz; cases hz
      · rintro ⟨h1, h2⟩ i hi hz
        rw [hwt i hi]
        have hiF : i < c.1 := by
          rcases Nat.lt_or_ge i c.1 with q | q
          · exact q
          · rw [tb_pow hs q] at hz; cases hz
        have hif : ¬ i = f := by
          rintro rfl
          rw [zb_nI (by omega), hz] at h1; cases h1
        have hAi : zb A i = false := by
          have : zb (nI s &&& A) i = false := by rw [h2, zb_0]
          rw [zb_and, zb_nI (by omega), hz] at this
          simpa using this
        simp [hiF, hif, hAi]
    have loop : ∀ m k (σ4 : zS), k + m = 2 ^ c.1 → Fr scR σ3 σ4 → ∀ w5, Z (e + 227) 240 Q 39 [.ref 214, .int (nI f), .int (oI (rC w G k)), .int (oD (fun s => diV c (σ 215) f (nI s)) (rC w G k)), .int (nI k), w5] [] σ4 := by
      intro m
      induction m with
      | zero =>
        intro k σ4 hk f4 w5
        refine k_240_39 ?_
        have g1 : σ4 214 1 = nI c.1 := (tR_1 f4.rT).trans ((tC_1 f3).trans hc.hR)
        rw [r_all, g1, hall, if_pos (nI_lt (by omega) (by omega))]
        have hkw : k = 2 ^ c.1 := by omega
        rw [hkw, hRO]
        cases hOc : O with
        | none =>
          rw [hOc] at hq
          rw [if_pos (show oI none = -1 from rfl)]
          exact hq σ4 f4
        | some s =>
          rw [hOc] at hq
          have hs : s < 512 := by
            have := rC_min w G (2 ^ c.1)
            rw [hRO, hOc] at this
            have := this.1
            omega
          rw [if_neg (show ¬ oI (some s) = -1 from nI_m1 (by omega)), show oI (some s) = nI s from rfl, show oD (fun s => diV c (σ 215) f (nI s)) (some s) = diV c (σ 215) f (nI s) from rfl]
          refine r_tell2 (d := e + 226) (e := e + 226) (K := fun _ s5 => ZC (e + 227) 0 [.int (nI s)] s5 (fun v8 s7 => Q v8 s7)) (g := fun _ => diV c (σ 215) f (nI s)) (fun _ _ => rfl) (fun σ5 f5 t5 => ?_)
          rw [s_bitCount, bc_pcn hs]
          exact hq σ5 ⟨Fr.tr f4.rT f5.sTR, t5⟩
      | succ m ih =>
        intro k σ4 hk f4 w5
        have hk5 : k < 512 := by omega
        refine k_240_39 ?_
        have g1 : σ4 214 1 = nI c.1 := (tR_1 f4.rT).trans ((tC_1 f3).trans hc.hR)
        have g45 : σ4 215 45 = A := by rw [← hA]; exact congrFun ((tR_215 f4.rT).trans (tC_215 f3)) 45
        rw [r_all, g1, hall, if_neg (nI_nlt (by omega) (by omega)), s_hasR _ (by omega), nI_1, g45]
        have hv := hvd k (by omega)
        have skip : vd w k = false → ∀ w5, Z (e + 227) 240 Q 39 [.ref 214, .int (nI f), .int (oI (rC w G k)), .int (oD (fun s => diV c (σ 215) f (nI s)) (rC w G k)), .int (nI (k + 1)), w5] [] σ4 := by
          intro hv' w5
          have := ih (k + 1) σ4 (by omega) f4 w5
          rw [rC_nv hv'] at this
          exact this
        cases hzf : zb (nI k) f
        · rw [if_pos (by decide)]
          rw [hzf] at hv
          by_cases hz2 : nI k &&& A = 0
          · rw [if_pos hz2]
            rw [decide_eq_true hz2] at hv
            have hvk : vd w k = true := hv
            have good : ∀ bst : Option Nat, rC w G (k + 1) = (if G k = true then some k else bst) → ZC (e + 227) 237 [.ref 214, .int (nI f), .int (nI k)] σ4 (fun v12 s11 => (if v12 = (-1) then Z (e + 227) 240 Q 39 [.ref 214, .int (nI f), .int (oI bst), .int (oD (fun s => diV c (σ 215) f (nI s)) bst), .int (nI (k + 1)), .int v12] [] s11 else Z (e + 227) 240 Q 39 [.ref 214, .int (nI f), .int (nI k), .int v12, .int (nI (k + 1)), .int v12] [] s11)) := by
              intro bst hz
              refine r_diesIn hc f3 f4 hf (by omega) (fun σ5 f5 => ?_)
              rw [show dI c 300 1 (drow (σ 215) c.1 f (σ 215 45 ||| nI k)) = diV c (σ 215) f (nI k) from rfl]
              have hd := diV_m1 (c := c) (r := σ 215) (f := f) (x := nI k)
              rw [hG1] at hz
              have ihn := ih (k + 1) σ5 (by omega) f5
              rw [hz] at ihn
              by_cases hz3 : diV c (σ 215) f (nI k) = -2
              · rw [if_pos (hd.mpr hz3)]
                rw [decide_eq_true hz3] at ihn
                exact ihn _
              · rw [if_neg (fun q => hz3 (hd.mp q)), if_neg hz3]
                rw [decide_eq_false hz3] at ihn
                exact ihn _
            cases hr : rC w G k with
            | none =>
              rw [if_pos (show oI none = -1 from rfl)]
              exact good none (rC_none hvk hr)
            | some s =>
              have hs : s < 512 := by
                have := rC_min w G k
                rw [hr] at this
                have := this.1
                omega
              rw [if_neg (show ¬ oI (some s) = -1 from nI_m1 (by omega)), s_bitCount, bc_pcn hk5, show oI (some s) = nI s from rfl, s_bitCount, bc_pcn hs]
              have b1 := pcn_le k
              have b2 := pcn_le s
              by_cases hp : pcn k < pcn s
              · rw [if_pos (nI_lt hp (by omega))]
                exact good (some s) (rC_lt hvk hr hp)
              · rw [if_neg (nI_nlt (by omega) (by omega))]
                have := ih (k + 1) σ4 (by omega) f4 w5
                rw [rC_ge hr hp] at this
                exact this
          · rw [if_neg hz2]
            rw [decide_eq_false hz2] at hv
            exact skip hv _
        · rw [if_neg (by decide)]
          rw [hzf] at hv
          exact skip hv _
    exact loop (2 ^ c.1) 0 _ (by omega) fr12 _
