/-! reach -/
theorem r_findFar {d s F : Nat} {c : MC} {r : Nat → Int32} (hF : F = c.1) (h9 : F ≤ 9) (hs : s < F) {v : Nat → Nat} {σ : zS} (h1 : σ 214 1 = nI F) (h215 : σ 215 = r) (h217 : σ 217 = c.2.2.1) (hv1 : DW F (eR c r s) (fun _ _ => 1) s v) (hv2 : DS F (eR c r s) (fun _ _ => 1) v) {Q : Int32 → zS → Prop} (hq : ∀ σ', Fr p228 σ σ' → FA F v σ' → Q 0 σ') : ZC (d + 4) 241 [.ref 214, .int (nI s), .int 0] σ Q := by
  refine k_241_0 ?_
  have hini := z_for (F := F) (P := fun f => ∀ σ1, Fr p228 σ σ1 → (∀ g, g < f → σ1 228 g = nI (d0 s g)) → ∀ w4 w5 w6, Z (d + 3) 241 Q 2 [.ref 214, .int (nI s), .int 0, .int (nI f), w4, w5, w6] [] σ1) (fun f hf ih => ?_) ?_
  · exact hini σ Fr.rf (fun g hg => absurd hg (Nat.not_lt_zero g)) _ _ _
  · intro σ1 f1 a1 w4 w5 w6
    refine k_241_2 ?_
    rw [show σ1 214 1 = nI F from (f1 214 1 (by decide)).trans h1, if_pos (nI_lt hf (by omega)), show nI f + (1 : Int32) = nI (f + 1) from nI_add f 1, if_pos (zin_nI (by omega) (by decide)), if_pos (zin_nI (by omega) (by decide)), zcl (by omega)]
    have fin : ∀ x : Int32, x = nI (d0 s f) → Z (d + 3) 241 Q 2 [.ref 214, .int (nI s), .int 0, .int (nI (f + 1)), w4, w5, w6] [] (zup σ1 228 f x) := fun x hx => by
      refine ih _ (Fr.tr f1 (Fr.up rfl)) (fun g hg => ?_) _ _ _
      rw [zup_eq, zput_app, if_pos rfl]
      by_cases q : g = f
      · rw [q, upd_eq, hx]
      · rw [upd_ne q]; exact a1 g (by omega)
    by_cases q : f = s
    · rw [if_pos (by rw [q])]
      exact fin 0 (by unfold d0; rw [if_pos q]; rfl)
    · rw [if_neg (fun q2 => q ((nI_eq (by omega) (by omega)).mp q2))]
      exact fin 1000000 (by unfold d0; rw [if_neg q]; rfl)
  · intro σ1 f1 a1 w4 w5 w6
    refine k_241_2 ?_
    have g215 : σ1 215 = r := (funext fun i => f1 215 i (by simp [p228])).trans h215
    have g217 : σ1 217 = c.2.2.1 := (funext fun i => f1 217 i (by simp [p228])).trans h217
    have g1 : σ1 214 1 = nI F := (f1 214 1 (by decide)).trans h1
    rw [g1, if_neg (nI_nlt (Nat.le_refl _) (by omega)), g215, s_hasR _ (by omega)]
    cases hp : zb (r 45) s
    · rw [if_pos (show b2i false = 0 from rfl)]
      -- round after round
      have key : ∀ n v0, sm v0 F ≤ n → ∀ σ2, Fr p228 σ σ2 → FA F v0 σ2 → DW F (eR c r s) (fun _ _ => 1) s v0 → ∀ x3 : Int32, x3 ≠ 0 → ∀ w4 w5 w6, Z (d + 3) 241 Q 54 [.ref 214, .int (nI s), .int 0, .int x3, w4, w5, w6] [] σ2 := by
        intro n
        induction n with
        | zero =>
          intro v0 hn σ2 f2 a2 hd x3 hx w4 w5 w6
          refine k_241_54 ?_
          rw [if_neg hx]
          refine r_farStep hF h9 hp (v0 := v0) (σ0 := σ2) ((f2 214 1 (by decide)).trans h1) ((funext fun i => f2 215 i (by simp [p228])).trans h215) ((funext fun i => f2 217 i (by simp [p228])).trans h217) (fun σ3 f3 a3 hs3 => ?_) (fun v3 σ3 f3 a3 hd3 hlt => by omega) σ2 Fr.rf a2 hd _ _
          exact hq σ3 (Fr.tr f2 f3) (fun f hf => by rw [a3 f hf, d_uniq (fun _ _ _ _ => Nat.le_refl 1) hd hs3 hv1 hv2 hf])
        | succ n ih =>
          intro v0 hn σ2 f2 a2 hd x3 hx w4 w5 w6
          refine k_241_54 ?_
          rw [if_neg hx]
          refine r_farStep hF h9 hp (v0 := v0) (σ0 := σ2) ((f2 214 1 (by decide)).trans h1) ((funext fun i => f2 215 i (by simp [p228])).trans h215) ((funext fun i => f2 217 i (by simp [p228])).trans h217) (fun σ3 f3 a3 hs3 => ?_) (fun v3 σ3 f3 a3 hd3 hlt x3 hx3 w4 w5 w6 => ?_) σ2 Fr.rf a2 hd _ _
          · exact hq σ3 (Fr.tr f2 f3) (fun f hf => by rw [a3 f hf, d_uniq (fun _ _ _ _ => Nat.le_refl 1) hd hs3 hv1 hv2 hf])
          · exact ih v3 (by omega) σ3 (Fr.tr f2 f3) a3 hd3 x3 hx3 _ _ _
      exact key _ (d0 s) (Nat.le_refl _) σ1 f1 (fun g hg => a1 g hg) d0_DW 1 (by decide) _ _ _
    · rw [if_neg (show ¬ b2i true = 0 by decide)]
      refine k_241_54 ?_
      rw [if_pos rfl]
      refine hq σ1 f1 (fun f hf => ?_)
      have hds : DS F (eR c r s) (fun _ _ => 1) (d0 s) := fun o _ f _ hE _ => by
        unfold eR at hE
        rw [hp] at hE
        simp at hE
      rw [a1 f hf, d_uniq (fun _ _ _ _ => Nat.le_refl 1) d0_DW hds hv1 hv2 hf]
/-- those reached -/
def rV (v : Nat → Nat) (s F : Nat) : Int32 := bs (fun f => !decide (f = s) && decide (v f < 1000000)) F
theorem r_reachLoop {d s F : Nat} {v : Nat → Nat} {σ : zS} (h9 : F ≤ 9) (hs : s < F) (h1 : σ 214 1 = nI F) (ha : FA F v σ) (hv : ∀ f, f < F → v f ≤ 1000000) {Q : Int32 → zS → Prop}
    (hq : ∀ m, m ≤ 1000000 → (∀ f, f < F → f ≠ s → v f < 1000000 → v f ≤ m) → (m = 0 ∨ ∃ f, f < F ∧ f ≠ s ∧ v f < 1000000 ∧ v f = m) → ∀ σ', Fr frTR σ σ' → TLr 1 (tv1 (nI m)) σ' → Q (rV v s F) σ') : Z (d + 2) 242 Q 28 [.ref 214, .int (nI s), .int 0, .int 0, .int 0] [] σ := by
  have hloop := z_for (F := F) (P := fun k => ∀ m, m ≤ 1000000 → (∀ f, f < k → f ≠ s → v f < 1000000 → v f ≤ m) → (m = 0 ∨ ∃ f, f < k ∧ f ≠ s ∧ v f < 1000000 ∧ v f = m) → Z (d + 2) 242 Q 28 [.ref 214, .int (nI s), .int (bs (fun f => !decide (f = s) && decide (v f < 1000000)) k), .int (nI m), .int (nI k)] [] σ) (fun k hk ih => ?_) ?_
  · exact hloop 0 (by decide) (fun f hf => absurd hf (Nat.not_lt_zero f)) (Or.inl rfl)
  · intro m hm u1 u2
    refine k_242_28 ?_
    rw [h1, if_pos (nI_lt hk (by omega)), show nI k + (1 : Int32) = nI (k + 1) from nI_add k 1]
    rw [bs_1] at ih
    by_cases q : k = s
    · rw [if_pos (by rw [q])]
      rw [decide_eq_true q] at ih
      refine ih m hm (fun f hf hfs hv => ?_) ?_
      · by_cases q2 : f = k
        · exact absurd (q2.trans q) hfs
        · exact u1 f (by omega) hfs hv
      · rcases u2 with u2 | ⟨f, k1, k2⟩
        · exact Or.inl u2
        · exact Or.inr ⟨f, by omega, k2⟩
    · rw [if_neg (fun q2 => q ((nI_eq (by omega) (by omega)).mp q2)), if_pos (zin_nI (by omega) (by decide)), zcl (by omega), ha k hk]
      rw [decide_eq_false q] at ih
      have hvk := hv k hk
      by_cases q2 : v k < 1000000
      · rw [decide_eq_true q2] at ih
        rw [if_pos (show nI (v k) < 1000000 from nI_lt (b := 1000000) q2 (by decide)), if_pos (zin_nI (by omega) (by decide)), s_mx]
        have up : ∀ m', m ≤ m' → v k ≤ m' → (m' = m ∨ m' = v k) → m' ≤ 1000000 → Z (d + 2) 242 Q 28 [.ref 214, .int (nI s), .int (bs (fun f => !decide (f = s) && decide (v f < 1000000)) k ||| zshl 1 (nI k)), .int (nI m'), .int (nI (k + 1))] [] σ := fun m' p1 p2 p3 p4 => by
          refine ih m' p4 (fun f hf hfs hv => ?_) ?_
          · by_cases q3 : f = k
            · rw [q3]; exact p2
            · have := u1 f (by omega) hfs hv; omega
          · rcases p3 with p3 | p3
            · rcases u2 with u2 | ⟨f, k1, k2, k3, k4⟩
              · exact Or.inl (by omega)
              · exact Or.inr ⟨f, by omega, k2, k3, by omega⟩
            · exact Or.inr ⟨k, by omega, q, q2, p3.symm⟩
        by_cases q3 : m < v k
        · rw [if_pos (nI_lt q3 (by omega))]
          exact up (v k) (by omega) (Nat.le_refl _) (Or.inr rfl) hvk
        · rw [if_neg (nI_nlt (by omega) (by omega))]
          exact up m (Nat.le_refl _) (by omega) (Or.inl rfl) hm
      · rw [decide_eq_false q2] at ih
        rw [if_neg (show ¬ nI (v k) < 1000000 from nI_nlt (b := 1000000) (by omega) (by omega))]
        refine ih m hm (fun f hf hfs hv => ?_) ?_
        · by_cases q3 : f = k
          · rw [q3] at hv; exact absurd hv q2
          · exact u1 f (by omega) hfs hv
        · rcases u2 with u2 | ⟨f, k1, k2⟩
          · exact Or.inl u2
          · exact Or.inr ⟨f, by omega, k2⟩
  · intro m hm u1 u2
    refine k_242_28 ?_
    rw [h1, if_neg (nI_nlt (Nat.le_refl _) (by omega))]
    exact r_tell1 (fun σ' f' t' => hq m hm u1 u2 σ' f' t')
theorem call_reach {d e b : Nat} {σ : zS} (x : Int32) (h : Inv b σ) : Both (d + 5) 108 [.ref 0, .int x] (e + 5) 242 [.ref 214, .int x] b σ := by
  obtain ⟨c, l, t, ht, hc⟩ := h.ctx
  have h9 := hc.h9
  have hR3 : ∀ σ3, Fr tC σ σ3 → (zup σ3 214 12 0) 214 1 = nI c.1 := fun σ3 f3 => (fr12 (σ := σ3) 214 1 (by decide)).trans ((f3 214 1 (by decide)).trans hc.hR)
  have h215 : ∀ σ3, Fr tC σ σ3 → (zup σ3 214 12 0) 215 = σ 215 := fun σ3 f3 => (tR_215 fr12.rT).trans (tC_215 f3)
  rcases faceC x h9 with hx | ⟨s, hs, rfl⟩
  · refine both_q h (-1) none (fun Q hq => ?_) (fun σ3 f3 Q hq => ?_)
    · refine k_108_0 ?_
      rw [c_isFace0 hc.h14 hx, if_pos rfl]
      exact hq σ Fr.rf
    · refine k_242_0 ?_
      rw [r_isFace0 (hR3 σ3 f3) h9 hx, if_pos rfl]
      exact hq _ fr12
  have h45 : σ 17 5 = σ 215 45 := hc.hcm.2.2.2.1
  obtain ⟨v, v1, v2⟩ := d_exists c.1 (eR c (σ 215) s) (fun _ _ => 1) s
  obtain ⟨K, hK9, hK1, hK2⟩ := d_first v1 v2 h9
  have hfar : ∀ f, f < c.1 → v f < 1000000 → v f < K := fun f hf hv => by
    rcases Nat.lt_or_ge (v f) K with q | q
    · exact q
    · obtain ⟨o, q1, q2⟩ := d_chain v1 v2 (v f) f hf rfl hv K q
      exact absurd q2 (hK2 o q1)
  have hK0 : 0 < K := by
    rcases Nat.eq_zero_or_pos K with q | q
    · exact absurd (v1.1.trans q.symm) (hK2 s hs)
    · exact q
  have eV : gS v c.1 K &&& (zshl 1 (nI s) ^^^ (-1)) = rV v s c.1 := zb_ext (fun o ho => by
    unfold gS rV
    rw [zb_and, zb_not ho, zb_bs (by omega) ho, zb_bs (by omega) ho, zb_one s (by omega) o ho]
    by_cases q : o < c.1
    · rw [decide_eq_true q, Bool.true_and, Bool.true_and]
      by_cases q2 : v o < 1000000
      · have := hfar o q q2
        rw [decide_eq_true q2, decide_eq_true (show v o ≤ K by omega), Bool.true_and, Bool.and_true]
      · have := v1.2.1 o q
        rw [decide_eq_false q2, decide_eq_false (show ¬ v o ≤ K by omega), Bool.and_false]
        rfl
    · rw [decide_eq_false q]; rfl)
  refine both_q h (rV v s c.1) (some (1, tv1 (nI (K - 1)))) (fun Q hq => ?_) (fun σ3 f3 Q hq => ?_)
  · refine k_108_0 ?_
    rw [c_isFace1 hc.h14 h9 hs, if_neg (by decide), s_bit, c_present14, hc.h14, h45]
    have e0 : zshl 1 (nI s) = gS v c.1 0 := zb_ext (fun o ho => by
      unfold gS
      rw [zb_bs (by omega) ho, zb_one s (by omega) o ho]
      by_cases q : o = s
      · rw [decide_eq_true q, q, decide_eq_true hs, decide_eq_true (show v s ≤ 0 by rw [v1.1]; decide)]; rfl
      · rw [decide_eq_false q]
        by_cases q2 : o < c.1
        · have : v o ≠ 0 := fun q3 => by
            obtain ⟨o', k1, k2, k3, k4⟩ := d_tight v1 v2 q2 q (by omega)
            have k4' : v o = v o' + 1 := k4
            omega
          rw [decide_eq_false (show ¬ v o ≤ 0 by omega), Bool.and_false]
        · rw [decide_eq_false q2]; rfl)
    cases hp : zb (σ 215 45) s
    · have e1 : zshl 1 (nI s) &&& ((zshl 1 (nI c.1) - 1) &&& (σ 215 45 ^^^ (-1))) = lS v c.1 0 := zb_ext (fun o ho => by
        unfold lS
        rw [zb_and, zb_and, zb_all c.1 h9 o ho, zb_not ho, zb_bs (by omega) ho, zb_one s (by omega) o ho]
        by_cases q : o = s
        · rw [decide_eq_true q, q, hp, decide_eq_true hs, decide_eq_true v1.1]; rfl
        · rw [decide_eq_false q]
          by_cases q2 : o < c.1
          · have : v o ≠ 0 := fun q3 => by
              obtain ⟨o', k1, k2, k3, k4⟩ := d_tight v1 v2 q2 q (by omega)
              have k4' : v o = v o' + 1 := k4
              omega
            rw [decide_eq_false this, Bool.and_false]
            rfl
          · rw [decide_eq_false q2]; rfl)
      rw [e1, e0]
      refine c_reachLoop (K := K) hc.2.2.1 h45 hs hp v1 v2 hK9 hK1 hK2 (fun σ' f' t' => ?_)
      rw [eV]
      exact hq σ' ⟨by decide, f'.sTC, t'⟩
    · have e1 : zshl 1 (nI s) &&& ((zshl 1 (nI c.1) - 1) &&& (σ 215 45 ^^^ (-1))) = 0 := zb_ext (fun o ho => by
        rw [zb_0, zb_and, zb_and, zb_not ho, zb_one s (by omega) o ho]
        by_cases q : o = s
        · rw [q, hp]; simp
        · rw [decide_eq_false q]; rfl)
      rw [e1]
      have hK1' : K = 1 := by
        by_cases q : K = 1
        · exact q
        · obtain ⟨o, q1, q2⟩ := hK1 1 (by omega)
          have hos : o ≠ s := by rintro rfl; rw [v1.1] at q2; cases q2
          obtain ⟨o', k1, k2, -⟩ := d_tight v1 v2 q1 hos (by omega)
          unfold eR at k2
          rw [hp] at k2
          simp at k2
      refine k_108_31 ?_
      simp only [s_bit, ↓reduceIte]
      rw [if_pos (show (0 : Int32) < 9 by decide)]
      refine c_tell1 (fun σ' f' t' => ?_)
      have eV2 : zshl 1 (nI s) &&& (zshl 1 (nI s) ^^^ (-1)) = rV v s c.1 := by
        rw [← eV, e0]
        refine zb_ext (fun o ho => ?_)
        rw [zb_and, zb_and, zb_not ho]
        unfold gS
        rw [zb_bs (by omega) ho, zb_bs (by omega) ho]
        by_cases q : o < c.1
        · by_cases q2 : v o ≤ 0
          · rw [decide_eq_true q2, decide_eq_true (show v o ≤ K by omega)]
          · rw [decide_eq_false q2, decide_eq_false (show ¬ v o ≤ K from fun q3 => hK2 o q (by omega))]
        · rw [decide_eq_false q]; rfl
      rw [eV2]
      refine hq σ' ⟨by decide, f'.sTC, ?_⟩
      rw [hK1']; exact t'
  · refine k_242_0 ?_
    rw [r_isFace1 (hR3 σ3 f3) h9 hs, if_neg (by decide)]
    have hc3 := (hc.fr (FrCT f3)).fr (FrR fr12)
    refine r_findFar (c := c) (r := σ 215) rfl h9 hs (hR3 σ3 f3) (h215 σ3 f3) hc3.2.2.2.2.2.2.2.1.2.2.1 v1 v2 (fun σ4 f4 a4 => ?_)
    refine r_reachLoop (F := c.1) h9 hs ((f4 214 1 (by decide)).trans (hR3 σ3 f3)) a4 v1.2.1 (fun m hm u1 u2 σ' f' t' => ?_)
    have em : m = K - 1 := by
      refine Nat.le_antisymm ?_ ?_
      · rcases u2 with rfl | ⟨f, k1, k2, k3, k4⟩
        · exact Nat.zero_le _
        · have := hfar f k1 k3; omega
      · by_cases q : K = 1
        · omega
        · obtain ⟨o, q1, q2⟩ := hK1 (K - 1) (by omega)
          have hos : o ≠ s := by rintro rfl; rw [v1.1] at q2; omega
          have := u1 o q1 hos (by omega)
          omega
    rw [em] at t'
    refine hq σ' ⟨Fr.tr fr12.rT (Fr.tr (Fr.mono f4 (fun o i q => ?_)) f'.sTR), t'⟩
    unfold p228
    refine decide_eq_false (fun q2 => ?_)
    subst q2
    exact absurd q (by simp [tR, scrT, scr])
