/-! an ACT is done: the reference; ACTS, one behind the other -/
def pAr (o i : Nat) : Bool := pR 215 o i || decide (o = 214 ∧ i = 33)
theorem pAr_215 (i : Nat) : pAr 215 i = true := rfl
theorem fr_pAr {σ σ' : zS} (h : Fr (pR 215) σ σ') : Fr pAr σ σ' := Fr.mono h (fun o i q => by
  unfold pAr at q
  rw [Bool.or_eq_false_iff] at q
  exact q.1)
theorem PF.re {c : MC} {l : List Int32} {t t' : Nat} {σ σ' : zS} (h : PF 215 c l t σ) (hf : ∀ o i, (o = 214 ∧ (i = 1 ∨ i = 6 ∨ i = 20)) ∨ o = 216 ∨ o = 217 ∨ o = 218 ∨ o = 222 → σ' o i = σ o i) (hw : WR c.1 t' (σ' 215)) : PF 215 c l t' σ' := by
  obtain ⟨c1, c5, c6, k5, c7, ⟨m1, m2, m3, m4⟩, -⟩ := h
  refine ⟨c1, RRef.ag c5 (hf 214 20 (by omega)) (fun i => hf 222 i (by omega)), (hf 214 6 (by omega)).trans c6, k5, ?_, ⟨(hf 214 1 (by omega)).trans m1, ?_, ?_, m4⟩, hw⟩
  · rw [← c7]; exact funext fun i => hf 218 i (by omega)
  · rw [← m2]; exact funext fun i => hf 216 i (by omega)
  · rw [← m3]; exact funext fun i => hf 217 i (by omega)
theorem r_act {e t k : Nat} {σ : zS} {c : MC} {l : List Int32} {r : Nat → Int32} (hPF : PF 215 c l t σ) (hr : σ 215 = r) (h7 : σ 214 7 = 0) {w f m : Nat} (hwh : whs w) (hf9 : f < 9) (hm : m ≤ 99) (h116 : w = 116 → m ≤ 9) (ht : t + m < 100000000) (hk : k < 20) (ha : σ 225 (3 * k) = nI w) (hb : σ 225 (3 * k + 1) = if w = 109 then nI m else nI f) (hcc : w = 116 → σ 225 (3 * k + 2) = nI m) {Q : Int32 → zS → Prop}
    (h1 : aOk c r w f = true → ∀ σ', Fr pAr σ σ' → PF 215 c l (t + aMi w m) σ' → σ' 215 = aRw c r w f m → σ' 214 33 = σ 214 33 + aAl c r w m → Q 1 σ')
    (h0 : aOk c r w f = false → Q 0 σ) : ZC (e + 227) 221 [.ref 214, .int (nI (3 * k))] σ Q := by
  have hPF' := hPF
  obtain ⟨-, -, -, -, -, ⟨m1, -, -, h9⟩, hwr⟩ := hPF'
  rw [hr] at hwr
  have e1 : nI (3 * k) + (1 : Int32) = nI (3 * k + 1) := nI_add _ 1
  have e2 : nI (3 * k) + (2 : Int32) = nI (3 * k + 2) := nI_add _ 2
  have z0 : zin (nI (3 * k)) 240 = true := zin_nI (by omega) (by decide)
  have z1 : zin (nI (3 * k + 1)) 240 = true := zin_nI (by omega) (by decide)
  have z2 : zin (nI (3 * k + 2)) 240 = true := zin_nI (by omega) (by decide)
  have nw : ∀ k, k < 1000 → w ≠ k → ¬ (nI w = nI k) := fun k hk hne q => hne ((nI_eq (by unfold whs at hwh; omega) (by omega)).mp q)
  refine k_221_0 ?_
  simp only [e1, e2, z0, z1, z2, ↓reduceIte]
  rw [zcl (by omega), zcl (by omega), zcl (by omega), ha, hb]
  by_cases hw109 : w = 109
  · subst hw109
    rw [if_neg (show ¬ (nI 109 = 97) by decide), if_neg (show ¬ (nI 109 = 102) by decide), if_pos (show nI 109 = 109 from rfl), if_pos rfl]
    have h1' := h1 rfl
    rw [show aRw c r 109 f m = mR c r m from rfl, show aAl c r 109 m = mA c r m from rfl, show aMi 109 m = m from rfl] at h1'
    have hloop := z_for (F := m) (P := fun k => ∀ σ1, Fr pAr σ σ1 → PF 215 c l (t + k) σ1 → σ1 215 = mR c r k → σ1 214 33 = σ 214 33 + mA c r k → ∀ x1 : Int32, Z (e + 226) 221 Q 58 [.ref 214, .int x1, .int (nI m), .int (nI k)] [] σ1) (fun k hk ih => ?_) ?_
    · exact hloop σ Fr.rf hPF hr (by rw [show mA c r 0 = 0 from rfl, Int32.add_zero]) _
    · intro σ1 f1 p1 g1 s1 x1
      refine k_221_58 ?_
      rw [if_pos (nI_lt hk (by omega))]
      refine r_passT215 (fr := false) p1 ((f1 214 7 (by decide)).trans h7) (by omega) (fun σ5 f5 p5 e5 y5 b5 m5 => ?_)
      rw [g1] at e5 y5
      rw [s_bitCount, y5, show nI k + (1 : Int32) = nI (k + 1) from nI_add k 1, show σ5 214 33 = σ1 214 33 from f5 214 33 (by decide), s1]
      generalize hs : zup σ5 214 33 (σ 214 33 + mA c r k + bc (ysS c false (mR c r k))) = σ6
      have e6 : ∀ o i, (o = 214 → i ≠ 33) → σ6 o i = σ5 o i := fun o i q => by
        rw [← hs, zup_eq, zput_app]
        by_cases q2 : o = 214
        · subst q2; rw [if_pos rfl, upd_ne (q rfl)]
        · rw [if_neg q2]
      have e215 : σ6 215 = σ5 215 := funext fun i => e6 215 i (fun q => absurd q (by decide))
      refine ih σ6 (Fr.tr f1 (Fr.tr (fr_pAr f5) (by rw [← hs]; exact Fr.up (by decide)))) (p5.re (fun o i q => e6 o i (by omega)) ?_) (e215.trans e5) ?_ x1
      · rw [e215]; exact p5.2.2.2.2.2.2
      · rw [← hs, mA_1, ← Int32.add_assoc]; rfl
    · intro σ1 f1 p1 g1 s1 x1
      refine k_221_58 ?_
      rw [if_neg (nI_nlt (Nat.le_refl _) (by omega))]
      exact h1' σ1 f1 p1 g1 s1
  rw [if_neg hw109]
  unfold aOk at h1 h0
  rw [if_neg hw109] at h1 h0
  have fa : aAl c r w m = 0 := if_neg hw109
  have fm : t + aMi w m = t := by unfold aMi; rw [if_neg hw109]; rfl
  -- a row that is set at once
  have fin : ∀ g, f < c.1 → g = aRw c r w f m → aOk c r w f = true → Q 1 (zput σ 215 g) := by
    intro g hfc hg ho
    unfold aOk at ho
    rw [if_neg hw109] at ho
    have hwr2 := aRw_WR (f := f) h9 hwr (fun _ => hfc) h116
    rw [fm, ← hg] at hwr2
    refine h1 ho _ (Fr.put (fun i q => by rw [pAr_215] at q; cases q)) ?_ ?_ ?_
    · rw [fm]
      refine hPF.re (fun o i q => by rw [zput_app, if_neg (by omega)]) ?_
      rw [zput_app, if_pos rfl]; exact hwr2
    · rw [zput_app, if_pos rfl]; exact hg
    · rw [fa, Int32.add_zero, zput_app, if_neg (by decide)]
  by_cases hf : f < c.1
  · have ok : (decide (w = 97 ∨ w = 116) || cyw r f) = true → aOk c r w f = true := fun q => by
      unfold aOk
      rw [if_neg hw109, decide_eq_true hf, Bool.true_and]; exact q
    rw [decide_eq_true hf, Bool.true_and] at h0
    by_cases h97 : w = 97
    · subst h97
      rw [if_pos (show nI 97 = 97 from rfl), r_isFace1 m1 h9 hf, if_neg (by decide)]
      refine k_213_0 ?_
      rw [r_clear215 (by omega)]
      have eg : zput (zup σ 215 45 (σ 215 45 ^^^ zshl 1 (nI f))) 215 (upd (upd (upd ((zup σ 215 45 (σ 215 45 ^^^ zshl 1 (nI f))) 215) (18 + f) (-1)) (27 + f) (-1)) (36 + f) 0) = zput σ 215 (gcl (upd r 45 (r 45 ^^^ zshl 1 (nI f))) f) := by
        rw [zup_eq, zput_twice, zput_app, if_pos rfl, hr]
        rfl
      rw [eg]
      exact fin _ hf rfl (ok rfl)
    rw [if_neg (show ¬ (nI w = 97) from nw 97 (by decide) h97)]
    by_cases h116' : w = 116
    · subst h116'
      rw [if_neg (show ¬ (nI 116 = 102) by decide), if_neg (show ¬ (nI 116 = 109) by decide), if_neg (show ¬ (nI 116 = 121) by decide), r_isFace1 m1 h9 hf, if_neg (by decide), if_pos (zin_nI (by omega) (by decide)), zcl (by omega), hcc rfl, zup_eq, hr]
      exact fin _ hf rfl (ok rfl)
    have hc0 : (decide (w = 97 ∨ w = 116) || cyw r f) = cyw r f := by rw [decide_eq_false (show ¬ (w = 97 ∨ w = 116) by omega), Bool.false_or]
    rw [hc0] at ok h0
    have rw215 : ∀ x : Int32, x = (if w = 102 then 1 else 0) → zput σ 215 (upd (upd (upd (σ 215) (18 + f) (σ 215 46)) (27 + f) (-1)) (36 + f) x) = zput σ 215 (aRw c r w f m) := fun x hx => by
      unfold aRw
      rw [if_neg hw109, if_neg h97, if_neg h116', hr, hx]
      rfl
    by_cases h102 : w = 102
    · subst h102
      rw [if_pos (show nI 102 = 102 from rfl), r_canYawn m1 h9 hf, hr]
      cases hcy : cyw r f
      · rw [if_pos (show b2i false = 0 from rfl)]; exact h0 hcy
      · rw [if_neg (show ¬ b2i true = 0 by decide), ha, if_pos (show nI 102 = 102 from rfl), r_begins215 (by omega), rw215 1 rfl]
        exact fin _ hf rfl (ok hcy)
    · have h121 : w = 121 := by unfold whs at hwh; omega
      subst h121
      rw [if_neg (show ¬ (nI 121 = 102) by decide), if_neg (show ¬ (nI 121 = 109) by decide), if_pos (show nI 121 = 121 from rfl), r_canYawn m1 h9 hf, hr]
      cases hcy : cyw r f
      · rw [if_pos (show b2i false = 0 from rfl)]; exact h0 hcy
      · rw [if_neg (show ¬ b2i true = 0 by decide), ha, if_neg (show ¬ (nI 121 = 102) by decide), r_begins215 (by omega), rw215 0 rfl]
        exact fin _ hf rfl (ok hcy)
  · rw [decide_eq_false hf, Bool.false_and] at h0
    have hx : nI f < 0 ∨ nI c.1 ≤ nI f := Or.inr (by rw [Int32.le_iff_toInt_le, nI_toInt (by omega), nI_toInt (by omega)]; omega)
    have n0 := h0 rfl
    have i0 : ∀ {σ' : zS}, σ' 214 1 = nI c.1 → ∀ (Q : Int32 → zS → Prop), ZC (e + 226) 175 [.ref 214, .int (nI f)] σ' Q = Q 0 σ' := fun h Q => r_isFace0 h h9 hx Q
    rw [i0 m1, i0 m1, r_canYawn0 m1 h9 hx, if_pos rfl, if_pos rfl]
    split
    · exact n0
    · rename_i q1
      split
      · exact n0
      · rename_i q2
        rw [if_neg (show ¬ (nI w = 109) from nw 109 (by decide) hw109)]
        split
        · exact n0
        · exact n0
