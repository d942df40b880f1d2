/-! the next set; enough -/
theorem zand (x y : Int32) : (x &&& (y ^^^ (-1)) = 0) = (decide (x &&& (y ^^^ (-1)) = 0) = true) := by simp
theorem c_nextSet {d : Nat} {σ : zS} {s w : Nat} (hs : s < 512) (hw : w < 512) (Q : Int32 → zS → Prop) : ZC (d + 2) 160 [.int (nI s), .int (nI w)] σ Q = Q (nx w s) σ := by
  refine s_of (fun Q h => k_160_0 ?_) Q
  rw [s_bitCount, bc_pcn hs, nI_1]
  have second : ∀ m j, j + m = w + 1 → ff (fun j => vd w j && decide (pcn j = pcn s)) (w - s) (s + 1) = -1 → ff (fun j => vd w j && decide (pcn j = pcn s + 1)) (w + 1) 0 = ff (fun j => vd w j && decide (pcn j = pcn s + 1)) m j → Z (d + 1) 160 Q 40 [.int (nI s), .int (nI w), .int (nI (pcn s)), .int (nI j)] [] σ := by
    intro m
    induction m with
    | zero =>
      intro j hj hn hI
      refine k_160_40 ?_
      rw [if_pos (nI_lt (by omega) (by omega))]
      unfold nx at h
      rw [if_pos hn, hI] at h
      exact h
    | succ m ih =>
      intro j hj hn hI
      refine k_160_40 ?_
      rw [if_neg (nI_nlt (by omega) (by omega)), nI_1, nI_1]
      have e1 : ff (fun j => vd w j && decide (pcn j = pcn s + 1)) (m + 1) j = if (vd w j && decide (pcn j = pcn s + 1)) = true then nI j else ff (fun j => vd w j && decide (pcn j = pcn s + 1)) m (j + 1) := rfl
      rw [e1] at hI
      by_cases hv : nI j &&& (nI w ^^^ (-1)) = 0
      · rw [if_pos hv, s_bitCount, bc_pcn (by omega)]
        have hv' : vd w j = true := by unfold vd; exact decide_eq_true hv
        have b1 := pcn_le j
        have b2 := pcn_le s
        by_cases hp : pcn j = pcn s + 1
        · rw [if_pos (by rw [hp])]
          rw [hv', decide_eq_true hp] at hI
          unfold nx at h
          rw [if_pos hn, hI] at h
          exact h
        · rw [if_neg (fun q => hp ((nI_eq (by omega) (by omega)).mp q))]
          rw [hv', decide_eq_false hp] at hI
          exact ih (j + 1) (by omega) hn hI
      · rw [if_neg hv]
        have hv' : vd w j = false := by unfold vd; exact decide_eq_false hv
        rw [hv'] at hI
        exact ih (j + 1) (by omega) hn hI
  have first : ∀ m j, (j + m = w + 1 ∨ (m = 0 ∧ w < j)) → j < 1000 → ff (fun j => vd w j && decide (pcn j = pcn s)) (w - s) (s + 1) = ff (fun j => vd w j && decide (pcn j = pcn s)) m j → Z (d + 1) 160 Q 9 [.int (nI s), .int (nI w), .int (nI (pcn s)), .int (nI j)] [] σ := by
    intro m
    induction m with
    | zero =>
      intro j hj hj2 hI
      refine k_160_9 ?_
      rw [if_pos (nI_lt (by omega) (by omega))]
      exact second (w + 1) 0 (by omega) hI rfl
    | succ m ih =>
      intro j hj hj2 hI
      refine k_160_9 ?_
      rw [if_neg (nI_nlt (by omega) (by omega)), nI_1]
      have e1 : ff (fun j => vd w j && decide (pcn j = pcn s)) (m + 1) j = if (vd w j && decide (pcn j = pcn s)) = true then nI j else ff (fun j => vd w j && decide (pcn j = pcn s)) m (j + 1) := rfl
      rw [e1] at hI
      by_cases hv : nI j &&& (nI w ^^^ (-1)) = 0
      · rw [if_pos hv, s_bitCount, bc_pcn (by omega)]
        have hv' : vd w j = true := by unfold vd; exact decide_eq_true hv
        have b1 := pcn_le j
        have b2 := pcn_le s
        by_cases hp : pcn j = pcn s
        · rw [if_pos (by rw [hp])]
          rw [hv', decide_eq_true hp] at hI
          unfold nx at h
          have hI' : ff (fun j => vd w j && decide (pcn j = pcn s)) (w - s) (s + 1) = nI j := hI
          rw [if_neg (by rw [hI']; exact nI_m1 (by omega)), hI'] at h
          exact h
        · rw [if_neg (fun q => hp ((nI_eq (by omega) (by omega)).mp q))]
          rw [hv', decide_eq_false hp] at hI
          exact ih (j + 1) (by omega) (by omega) hI
      · rw [if_neg hv]
        have hv' : vd w j = false := by unfold vd; exact decide_eq_false hv
        rw [hv'] at hI
        exact ih (j + 1) (by omega) (by omega) hI
  exact first (w - s) (s + 1) (by omega) (by omega) rfl
theorem nx_cases {w s : Nat} (hw : w < 512) (hs : s < 512) : nx w s = -1 ∨ ∃ s2, s2 < 512 ∧ nx w s = nI s2 ∧ vd w s2 = true := by
  unfold nx
  rcases ff_cases (p := fun j => vd w j && decide (pcn j = pcn s)) (w - s) (s + 1) with ⟨h1, -⟩ | ⟨j, h1, h2, h3, h4, -⟩
  · rw [if_pos h1]
    rcases ff_cases (p := fun j => vd w j && decide (pcn j = pcn s + 1)) (w + 1) 0 with ⟨g1, -⟩ | ⟨j, g1, g2, g3, g4, -⟩
    · exact Or.inl g1
    · rw [Bool.and_eq_true] at g3
      exact Or.inr ⟨j, by omega, g4, g3.1⟩
  · rw [if_neg (by rw [h4]; exact nI_m1 (by omega))]
    rw [Bool.and_eq_true] at h3
    exact Or.inr ⟨j, by omega, h4, h3.1⟩
theorem allN : ∀ F, F ≤ 9 → zshl 1 (nI F) - 1 = nI (2 ^ F - 1) := by decide +kernel
theorem all512 {F : Nat} (h : F ≤ 9) : 2 ^ F - 1 < 512 := by
  have : 2 ^ F ≤ 2 ^ 9 := Nat.pow_le_pow_right (by decide) h
  omega
theorem zb_nI {n i : Nat} (hi : i < 32) : zb (nI n) i = n.testBit i := by
  show (BitVec.ofNat 32 n).getLsbD i = n.testBit i
  rw [BitVec.getLsbD_ofNat]
  simp [hi]
theorem allV : ∀ F, F ≤ 9 → ∀ s, s < 2 ^ F → vd (2 ^ F - 1) s = true := by
  intro F hF s hs
  have h2 : 2 ^ F ≤ 2 ^ 9 := Nat.pow_le_pow_right (by decide) hF
  rw [vd_bit (by omega)]
  intro i hi hb
  have e1 : zb (zshl 1 (nI F) - 1) i = decide (i < F) := zb_all F hF i (by omega)
  rw [allN F hF, zb_nI (by omega)] at e1
  rw [e1, decide_eq_true_iff]
  rcases Nat.lt_or_ge i F with h | h
  · exact h
  · have : s.testBit i = false := Nat.testBit_lt_two_pow (Nat.lt_of_lt_of_le hs (Nat.pow_le_pow_right (by decide) h))
    rw [this] at hb; cases hb
def oI : Option Nat → Int32
  | none => -1
  | some s => nI s
theorem rC_1 (w : Nat) (G : Nat → Bool) (k : Nat) : rC w G (k + 1) = if (vd w k && (match rC w G k with
      | none => true
      | some b => decide (pcn k < pcn b)) && G k) = true then some k else rC w G k := rfl
theorem rC_nv {w : Nat} {G : Nat → Bool} {k : Nat} (h : vd w k = false) : rC w G (k + 1) = rC w G k := by
  rw [rC_1, h]; rfl
theorem rC_none {w : Nat} {G : Nat → Bool} {k : Nat} (h : vd w k = true) (hr : rC w G k = none) : rC w G (k + 1) = if G k = true then some k else none := by
  rw [rC_1, h, hr]; cases G k <;> rfl
theorem rC_lt {w : Nat} {G : Nat → Bool} {k s : Nat} (h : vd w k = true) (hr : rC w G k = some s) (hp : pcn k < pcn s) : rC w G (k + 1) = if G k = true then some k else some s := by
  have e : decide (pcn k < pcn s) = true := decide_eq_true hp
  rw [rC_1, h, hr]
  show (if (true && decide (pcn k < pcn s) && G k) = true then some k else some s) = _
  rw [e]
  cases G k <;> rfl
theorem rC_ge {w : Nat} {G : Nat → Bool} {k s : Nat} (hr : rC w G k = some s) (hp : ¬ pcn k < pcn s) : rC w G (k + 1) = some s := by
  have e : decide (pcn k < pcn s) = false := decide_eq_false hp
  rw [rC_1, hr]
  show (if (vd w k && decide (pcn k < pcn s) && G k) = true then some k else some s) = _
  rw [e]
  cases vd w k <;> rfl
def okV (z : Int32) (f : Nat → Int32) : Option Nat → Int32
  | none => z
  | some s => f s
def okT (f : Nat → Nat × (Nat → Int32)) : Option Nat → TT
  | none => none
  | some s => some (f s)
theorem call_enough {d e b : Nat} {σ : zS} (h : Inv b σ) : Both (d + 7) 110 [.ref 0] (e + 228) 245 [.ref 214] b σ := by
  obtain ⟨c, l, t, ht, hc⟩ := h.ctx
  have h9 := hc.h9
  have hw := all512 h9
  generalize hwn : 2 ^ c.1 - 1 = w at hw
  have hall : zshl 1 (nI c.1) - 1 = nI w := by rw [allN c.1 h9, hwn]
  generalize hG : (fun s => decide (so (nI c.1) c.2.2.1 (nI s) c.1 = nI w)) = G
  have hG1 : ∀ s, G s = decide (so (nI c.1) c.2.2.1 (nI s) c.1 = nI w) := fun s => by rw [← hG]
  have hpos : 0 < 2 ^ c.1 := Nat.two_pow_pos _
  generalize hO : sC w G 512 0 = O
  refine both_q h (okV (-2) (fun s => nI (pcn s)) O) (okT (fun s => (1, tv1 (nI s))) O) (fun Q hq => ?_) (fun σ3 f3 Q hq => ?_)
  · refine k_110_0 ?_
    rw [c_everybody14, hc.h14, hall]
    have hso : ∀ s, so (nI c.1) (σ 16) (nI s) c.1 = so (nI c.1) c.2.2.1 (nI s) c.1 := fun s => so_cong c.1 (fun f hf => (hc.2.2.1.2.2.1 f hf).2)
    have loop : ∀ m k s, k + m = 512 → s < 512 → sC w G m s = O → Z (d + 6) 110 Q 12 [.ref 0, .int (nI w), .int (nI s), .int (nI k)] [] σ := by
      intro m
      induction m with
      | zero =>
        intro k s hk hs hI
        refine k_110_12 ?_
        rw [if_neg (show ¬ nI k < 512 from nI_nlt (a := k) (b := 512) (by omega) (by omega))]
        have : O = none := by rw [← hI]; rfl
        rw [this] at hq
        exact hq σ Fr.rf
      | succ m ih =>
        intro k s hk hs hI
        refine k_110_12 ?_
        rw [if_pos (show nI k < 512 from nI_lt (b := 512) (by omega) (by decide)), if_neg (nI_m1 (by omega)), c_sightOf14 hc.h14 h9, hso]
        unfold sC at hI
        rw [hG1] at hI
        by_cases hz : so (nI c.1) c.2.2.1 (nI s) c.1 = nI w
        · rw [if_pos hz]
          rw [decide_eq_true hz] at hI
          have : O = some s := by rw [← hI]; rfl
          rw [this] at hq
          refine c_tell1 (fun σ1 f1 t1 => ?_)
          rw [s_bitCount, bc_pcn hs]
          exact hq σ1 ⟨by decide, f1.sTC, t1⟩
        · rw [if_neg hz, c_nextSet hs hw, nI_1]
          rw [decide_eq_false hz] at hI
          simp only [Bool.false_eq_true, ↓reduceIte] at hI
          rcases nx_cases hw hs with hn | ⟨s2, h1, h2, h3⟩
          · rw [hn]
            rw [if_pos hn] at hI
            have : O = none := by rw [← hI]
            rw [this] at hq
            refine k_110_12 ?_
            by_cases hlt : nI (k + 1) < (512 : Int32)
            · rw [if_pos hlt, if_pos rfl]; exact hq σ Fr.rf
            · rw [if_neg hlt]; exact hq σ Fr.rf
          · rw [h2]
            rw [if_neg (by rw [h2]; exact nI_m1 (by omega)), h2, nI_clamp (by omega)] at hI
            exact ih (k + 1) s2 (by omega) h1 hI
    exact loop 512 0 0 (by decide) (by decide) hO
  · refine k_245_0 ?_
    have g1 : (zup σ3 214 12 0) 214 1 = nI c.1 := h300 σ3 hc f3
    generalize hσ4 : zup σ3 214 12 0 = σ4 at g1
    have f4 : Fr scR σ3 σ4 := by rw [← hσ4]; exact fr12
    have hS : σ4 217 = c.2.2.1 := by
      rw [← hc.2.2.2.2.2.2.2.1.2.2.1]
      exact (funext fun i => f4 217 i (by simp [scR, scr])).trans (funext fun i => f3 217 i (by simp [tC]))
    have hRO : rC w G (w + 1) = O := by
      rw [← hO, search_eq hw]
      have := rC_stop (w := w) G (512 - (w + 1)) (by omega)
      rw [show w + 1 + (512 - (w + 1)) = 512 by omega] at this
      exact this.symm
    have loop : ∀ m k, k + m = w + 1 → Z (e + 227) 245 Q 9 [.ref 214, .int (oI (rC w G k)), .int (nI k)] [] σ4 := by
      intro m
      induction m with
      | zero =>
        intro k hk
        refine k_245_9 ?_
        rw [r_all, g1, hall, if_pos (nI_lt (by omega) (by omega))]
        have hkw : k = w + 1 := by omega
        rw [hkw, hRO]
        cases hOc : O with
        | none =>
          rw [hOc] at hq
          rw [if_pos (show oI none = -1 from rfl)]
          exact hq σ4 f4
        | some s =>
          rw [hOc] at hq
          have hs : s < 512 := by
            have := rC_min w G (w + 1)
            rw [hRO, hOc] at this
            have := this.1
            omega
          rw [if_neg (show ¬ oI (some s) = -1 from nI_m1 (by omega)), show oI (some s) = nI s from rfl]
          refine r_tell1 (fun σ5 f5 t5 => ?_)
          rw [s_bitCount, bc_pcn hs]
          exact hq σ5 ⟨Fr.tr f4.rT f5.sTR, t5⟩
      | succ m ih =>
        intro k hk
        have hvk : vd w k = true := by rw [← hwn]; exact allV c.1 h9 k (by omega)
        have ihn := ih (k + 1) (by omega)
        refine k_245_9 ?_
        rw [r_all, g1, hall, if_neg (nI_nlt (by omega) (by omega)), nI_1]
        have good : ∀ (bst : Option Nat), (∀ z : Option Nat, z = (if G k = true then some k else bst) → Z (e + 227) 245 Q 9 [.ref 214, .int (oI z), .int (nI (k + 1))] [] σ4) → ZC (e + 227) 203 [.ref 214, .int (nI k)] σ4 (fun v8 s7 => (ZC (e + 227) 176 [.ref 214] s7 (fun v10 s9 => (if v8 = v10 then Z (e + 227) 245 Q 9 [.ref 214, .int (nI k), .int (nI (k + 1))] [] s9 else Z (e + 227) 245 Q 9 [.ref 214, .int (oI bst), .int (nI (k + 1))] [] s9)))) := by
          intro bst hz
          rw [r_seenBy g1 h9, hS, r_all, g1, hall]
          rw [hG1] at hz
          by_cases hq2 : so (nI c.1) c.2.2.1 (nI k) c.1 = nI w
          · rw [if_pos hq2]
            rw [decide_eq_true hq2] at hz
            exact hz (some k) rfl
          · rw [if_neg hq2]
            rw [decide_eq_false hq2] at hz
            exact hz bst rfl
        cases hr : rC w G k with
        | none =>
          rw [rC_none hvk hr] at ihn
          rw [if_pos (show oI none = -1 from rfl)]
          refine good none (fun z hz => ?_)
          rw [hz]
          exact ihn
        | some s =>
          have hs : s < 512 := by
            have := rC_min w G k
            rw [hr] at this
            have := this.1
            omega
          rw [if_neg (show ¬ oI (some s) = -1 from nI_m1 (by omega)), s_bitCount, bc_pcn (by omega), show oI (some s) = nI s from rfl, s_bitCount, bc_pcn hs]
          have b1 := pcn_le k
          have b2 := pcn_le s
          by_cases hp : pcn k < pcn s
          · rw [if_pos (nI_lt hp (by omega))]
            refine good (some s) (fun z hz => ?_)
            rw [hz]
            rw [rC_lt hvk hr hp] at ihn
            exact ihn
          · rw [if_neg (nI_nlt (by omega) (by omega))]
            rw [rC_ge hr hp] at ihn
            exact ihn
    exact loop (w + 1) 0 (by omega)
