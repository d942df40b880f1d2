/-! the reference reads a line of THE WALL -/
def RT (C : Nat → Nat) (T m : Nat) (σ : zS) : Prop := T ≤ 80 ∧ m ≤ 80 ∧ σ 214 13 = nI 220 ∧ σ 214 14 = nI T ∧ σ 214 15 = nI m ∧ ∀ i, i < T → chR (σ 219 i) (C i)
theorem RT.ag {C : Nat → Nat} {T m : Nat} {σ σ' : zS} (h : RT C T m σ) (h1 : ∀ i, 13 ≤ i → i ≤ 15 → σ' 214 i = σ 214 i) (h2 : ∀ i, σ' 219 i = σ 219 i) : RT C T m σ' := by
  obtain ⟨g1, g2, g3, g4, g5, g6⟩ := h
  exact ⟨g1, g2, (h1 13 (by decide) (by decide)).trans g3, (h1 14 (by decide) (by decide)).trans g4, (h1 15 (by decide) (by decide)).trans g5, fun i hi => by rw [h2]; exact g6 i hi⟩
theorem RT.to {C : Nat → Nat} {T m : Nat} {σ : zS} (h : RT C T m σ) : R219 (cutC C (min T m)) (min T m) σ := by
  obtain ⟨g1, g2, g3, g4, g5, g6⟩ := h
  exact ⟨r_here219 g1 g2 g3 g4 g5 g6, g3, by omega, fun i hi => by rw [cutC_lt hi]; exact g6 i (by omega), cutC_ge C _⟩
theorem RT.pq {C : Nat → Nat} {T m : Nat} {σ σ' : zS} (h : RT C T m σ) (hf : Fr pq σ σ') : RT C T m σ' :=
  h.ag (fun i q1 q2 => hf 214 i (decide_eq_false (by omega))) (fun i => hf 219 i (decide_eq_false (by omega)))
def p21 (k o i : Nat) : Bool := decide ((o = 214 ∧ (i = 16 ∨ i = 17)) ∨ (o = 221 ∧ 3 * k ≤ i))
theorem RT.p21 {C : Nat → Nat} {T m k : Nat} {σ σ' : zS} (h : RT C T m σ) (hf : Fr (p21 k) σ σ') : RT C T m σ' :=
  h.ag (fun i q1 q2 => hf 214 i (decide_eq_false (by omega))) (fun i => hf 219 i (decide_eq_false (by omega)))
theorem RF.ag {a : Nat} {σ σ' : zS} (h : RF a σ) (h1 : σ' 214 16 = σ 214 16) (h2 : σ' 214 17 = σ 214 17) : RF a σ' := ⟨h1.trans h.1, h2.trans h.2⟩
theorem r_fine1 {d a : Nat} {σ : zS} (h : RF a σ) (Q : Int32 → zS → Prop) : ZC (d + 1) 183 [.ref 214] σ Q = Q 1 σ := by
  rw [r_fine, h.2]; rfl
theorem r_fine0 {d p L : Nat} {σ : zS} (h : RB L p σ) (Q : Int32 → zS → Prop) : ZC (d + 1) 183 [.ref 214] σ Q = Q 0 σ := by
  rw [r_fine, h.1, if_neg (of_eq_false (ne_m1 _ h.2.1))]
theorem r_letLoop {C : Nat → Nat} {T m kk : Nat} (hk : kk ≤ 8) {d : Nat} {Q : Int32 → zS → Prop} : ∀ n a last b (σ : zS) w, 8 ≤ n + last → last ≤ 8 → RT C T m σ → RF a σ → a ≤ min T m → σ 221 (3 * kk + 2) = b →
    (∀ σ', Fr (fun o i => decide ((o = 214 ∧ (i = 16 ∨ i = 17)) ∨ (o = 221 ∧ i = 3 * kk + 2))) σ σ' → σ' 221 (3 * kk + 2) = (pLet (cutC C (min T m)) n a last b).2 → RF (pLet (cutC C (min T m)) n a last b).1 σ' ∨ (97 ≤ cutC C (min T m) (pLet (cutC C (min T m)) n a last b).1 ∧ cutC C (min T m) (pLet (cutC C (min T m)) n a last b).1 ≤ 105 ∧ RB (min T m) (pLet (cutC C (min T m)) n a last b).1 σ') → Q 0 σ') → Z (d + 2) 191 Q 65 [.ref 214, .int (nI (3 * kk)), .int (nI last), w] [] σ := by
  have fin : ∀ a (σ : zS) w last b, RT C T m σ → RF a σ → a ≤ min T m → last ≤ 8 → σ 221 (3 * kk + 2) = b → ¬ (97 + (last + 1) ≤ cutC C (min T m) a ∧ cutC C (min T m) a ≤ 105) → (∀ σ', Fr (fun o i => decide ((o = 214 ∧ (i = 16 ∨ i = 17)) ∨ (o = 221 ∧ i = 3 * kk + 2))) σ σ' → σ' 221 (3 * kk + 2) = b → RF a σ' ∨ (97 ≤ cutC C (min T m) a ∧ cutC C (min T m) a ≤ 105 ∧ RB (min T m) a σ') → Q 0 σ') → Z (d + 2) 191 Q 65 [.ref 214, .int (nI (3 * kk)), .int (nI last), w] [] σ := by
    intro a σ w last b hR hF ha hl hb hn hq
    have h80 := hR.1
    obtain ⟨r1, r2, r3, r4, r5⟩ := hR.to
    refine k_191_65 ?_
    rw [r_fine1 hF, if_neg (by decide)]
    refine r1 σ Fr.rf a ha hF.1 (d + 1) _ (fun x hx => ?_)
    rw [s_in, show (if x < 97 then (0 : Int32) else if 105 < x then 0 else 1) = b2i (decide (97 ≤ cutC C (min T m) a ∧ cutC C (min T m) a ≤ 105)) from in_rng hx (lo := 97) (hi := 105) (by decide) (by decide)]
    by_cases hl2 : 97 ≤ cutC C (min T m) a ∧ cutC C (min T m) a ≤ 105
    · rw [decide_eq_true hl2, if_neg (by decide)]
      refine r1 σ Fr.rf a ha hF.1 (d + 1) _ (fun y hy => ?_)
      rw [ch_dig hy (by omega), show nI (cutC C (min T m) a) - (97 : Int32) = nI (cutC C (min T m) a - 97) from subL (k := 97) (by omega), if_neg (nI_nlt (by omega) (by omega)), r_fault hF.2, hF.1]
      have hB : RB (min T m) a (zup σ 214 17 (nI a)) := RF.bad hF ha (by omega)
      refine k_191_65 ?_
      rw [r_fine0 hB, if_pos rfl]
      exact hq _ (Fr.up (by simp)) hb (Or.inr ⟨hl2.1, hl2.2, hB⟩)
    · rw [decide_eq_false hl2, if_pos (by decide)]
      exact hq _ Fr.rf hb (Or.inl hF)
  intro n
  induction n with
  | zero =>
    intro a last b σ w h8 hl hR hF ha hb hq
    exact fin a σ w last b hR hF ha hl hb (by omega) hq
  | succ n ih =>
    intro a last b σ w h8 hl hR hF ha hb hq
    rw [pLet_1] at hq
    by_cases hc : 97 + (last + 1) ≤ cutC C (min T m) a ∧ cutC C (min T m) a ≤ 105
    · have h80 := hR.1
      obtain ⟨r1, r2, r3, r4, r5⟩ := hR.to
      have haL := inL (L := min T m) r5 (a := a) (by omega)
      rw [if_pos hc] at hq
      refine k_191_65 ?_
      rw [r_fine1 hF, if_neg (by decide)]
      refine r1 σ Fr.rf a ha hF.1 (d + 1) _ (fun x hx => ?_)
      rw [s_in, show (if x < 97 then (0 : Int32) else if 105 < x then 0 else 1) = b2i (decide (97 ≤ cutC C (min T m) a ∧ cutC C (min T m) a ≤ 105)) from in_rng hx (lo := 97) (hi := 105) (by decide) (by decide), decide_eq_true (show 97 ≤ cutC C (min T m) a ∧ cutC C (min T m) a ≤ 105 by omega), if_neg (by decide)]
      refine r1 σ Fr.rf a ha hF.1 (d + 1) _ (fun y hy => ?_)
      rw [ch_dig hy (by omega), show nI (cutC C (min T m) a) - (97 : Int32) = nI (cutC C (min T m) a - 97) from subL (k := 97) (by omega), if_pos (nI_lt (by omega) (by omega)), show nI (3 * kk) + (2 : Int32) = nI (3 * kk + 2) from nI_add _ 2, if_pos (zin_nI (by omega) (by decide)), if_pos (zin_nI (by omega) (by decide)), zcl (by omega), hF.1, hb, show nI a + (1 : Int32) = nI (a + 1) from nI_add a 1]
      refine ih (a + 1) _ _ _ _ (by omega) (by omega) (hR.ag (fun i q1 q2 => ?_) (fun i => rfl)) ⟨?_, ?_⟩ (by omega) ?_ (fun σ' f' e' r' => hq σ' (Fr.tr (Fr.tr (Fr.up (by simp)) (Fr.up (by simp))) f') e' r')
      · simp only [zup_eq, zput_app, Nat.reduceEqDiff, ↓reduceIte]
        rw [upd_ne (by omega)]
      · simp only [zup_eq, zput_app, Nat.reduceEqDiff, ↓reduceIte, upd_eq]
      · simp only [zup_eq, zput_app, Nat.reduceEqDiff, ↓reduceIte]
        rw [upd_ne (by decide)]; exact hF.2
      · simp only [zup_eq, zput_app, Nat.reduceEqDiff, ↓reduceIte, upd_eq]
    · rw [if_neg hc] at hq
      exact fin a σ w last b hR hF ha hl hb hc hq
theorem r_needF {C : Nat → Nat} {L : Nat} {σ : zS} (hR : R219 C L σ) {a : Nat} (hF : RF a σ) (ha : a ≤ L) {c : Nat} (hc : c < 128) {d : Nat} {Q : Int32 → zS → Prop} (h1 : C a = c → Q 0 (zup σ 214 16 (nI (a + 1)))) (h0 : C a ≠ c → Q 0 (zup σ 214 17 (nI a))) : ZC (d + 3) 186 [.ref 214, .int (nI c)] σ Q := r_need hR.1 Fr.rf hF ha hc h1 h0
theorem r_passesF {C : Nat → Nat} {L : Nat} {σ : zS} (hR : R219 C L σ) {a : Nat} (hF : RF a σ) (ha : a ≤ L) {c : Nat} (hc : c < 128) {d : Nat} {Q : Int32 → zS → Prop} (h1 : C a = c → Q 1 (zup σ 214 16 (nI (a + 1)))) (h0 : C a ≠ c → Q 0 σ) : ZC (d + 2) 185 [.ref 214, .int (nI c)] σ Q := r_passes hR.1 Fr.rf hF ha hc h1 h0
theorem RB.ag {L p : Nat} {σ σ' : zS} (h : RB L p σ) (h1 : σ' 214 16 = σ 214 16) (h2 : σ' 214 17 = σ 214 17) : RB L p σ' := by
  obtain ⟨g1, g2, a, g3, g4⟩ := h
  exact ⟨h2.trans g1, g2, a, g3, h1.trans g4⟩
theorem r_digitB {L p : Nat} {σ : zS} (hB : RB L p σ) {x : Int32} {d : Nat} (Q : Int32 → zS → Prop) : ZC (d + 2) 187 [.ref 214, .int x] σ Q = Q 0 σ :=
  s_of (fun Q h => k_187_0 (by rw [r_fine0 hB, if_pos rfl]; exact h)) Q
theorem r_letterB {L p : Nat} {σ : zS} (hB : RB L p σ) {d : Nat} (Q : Int32 → zS → Prop) : ZC (d + 2) 188 [.ref 214] σ Q = Q 0 σ :=
  s_of (fun Q h => k_188_0 (by rw [r_fine0 hB, if_pos rfl]; exact h)) Q
