/-! season -/
theorem nI0_cases {m : Option Nat} : optI m = -1 ↔ m = none ∨ ∃ k, m = some k ∧ nI k = -1 := by
  cases m with
  | none => exact ⟨fun _ => Or.inl rfl, fun _ => rfl⟩
  | some k => exact ⟨fun h => Or.inr ⟨k, rfl, h⟩, fun h => by
      rcases h with h | ⟨k', h1, h2⟩
      · cases h
      · cases h1; exact h2⟩
def ssT (s : SS) (F : Nat) : Nat → Int32 := tv4 s.2.2.1 s.2.2.2.1 (optI (mst s.2.2.2.2 F)) (match mst s.2.2.2.2 F with
  | none => 0
  | some m => nI (s.2.2.2.2 m))
theorem c_seasonLoop {d n : Nat} {x : Int32} {σ : zS} {c : MC} {l : List Int32} {t : Nat} (hc : Ctx c l t σ) (hn : n ≤ 20) (ht : t + 300 < 1073741824) {Q : Int32 → zS → Prop}
    (hq : ∀ σ', Fr tC σ σ' → TL 4 (ssT (ssR c (σ 214 4) (σ 215) x n) c.1) σ' → Q (nI (ssR c (σ 214 4) (σ 215) x n).2.1) σ') : ∀ σ1 w8, Fr scC σ σ1 → (∀ f, f < c.1 → σ1 191 f = 0) → Z (d + 6) 126 Q 34 [.ref 0, .int x, .int (nI n), .int x, .int 0, .int (-1), .int (-1), .int 0, w8] [] σ1 := by
  have h9 := hc.h9
  have hloop := z_for (F := n) (P := fun k => ∀ σ1 w8, Fr scC σ σ1 → (∀ f, f < c.1 → σ1 191 f = nI ((ssR c (σ 214 4) (σ 215) x k).2.2.2.2 f)) → Z (d + 6) 126 Q 34 [.ref 0, .int x, .int (nI n), .int (ssR c (σ 214 4) (σ 215) x k).1, .int (nI (ssR c (σ 214 4) (σ 215) x k).2.1), .int (ssR c (σ 214 4) (σ 215) x k).2.2.1, .int (ssR c (σ 214 4) (σ 215) x k).2.2.2.1, .int (nI k), w8] [] σ1) (fun k hk ih => ?_) ?_
  · exact fun σ1 w8 f1 e1 => hloop σ1 w8 f1 e1
  · intro σ1 w8 f1 e1
    rw [ssR_1] at ih
    obtain ⟨b1, b2⟩ := ssR_le (c := c) (j := σ 214 4) (r0 := σ 215) (x := x) k
    generalize hS : ssR c (σ 214 4) (σ 215) x k = s at ih e1 b1 b2
    refine k_126_34 ?_
    rw [if_pos (nI_lt hk (by omega))]
    refine c_takeX hc f1.cT (fun σ2 f2 p2 => ?_)
    have hrow := z_for (F := c.1) (P := fun g => ∀ σ3, Fr sX σ1 σ3 → PC c l t (rwS s.1 (σ 215) g) σ3 → Z (d + 6) 126 Q 54 [.ref 0, .int x, .int (nI n), .int (sdN s.1 g), .int (nI s.2.1), .int s.2.2.1, .int s.2.2.2.1, .int (nI k), .int (nI g)] [] σ3) (fun g hg ih2 => ?_) ?_
    · exact hrow σ2 f2 p2
    · intro σ3 f3 p3
      refine k_126_54 ?_
      have h14 : σ3 14 3 = nI c.1 := (tC_14 (Fr.tr f1.cT f3.sXC.cT)).trans hc.h14
      obtain ⟨m, hm, em⟩ := tv10_rng (sdN s.1 (g + 1))
      rw [h14, if_pos (nI_lt hg (by omega)), if_pos (zin_nI (by omega) (by decide)), zcl (by omega), show nI g + (1 : Int32) = nI (g + 1) from nI_add g 1, show zrem (zushr (sdN s.1 g * 1103515245 + 12345) 16) 10 = nI m from em]
      refine ih2 _ (Fr.tr f3 (Fr.up rfl)) ?_
      obtain ⟨p1', p2', ⟨k1, k2, k3, k4, k5, k6⟩, p4', p5'⟩ := p3
      have o : ∀ o i, o ≠ 27 → (zup σ3 27 g (nI m)) o i = σ3 o i := fun o i q => by rw [zup_eq, zput_app, if_neg q]
      rw [rwS_1, em]
      exact ⟨p1', ⟨(o 3 2 (by decide)).trans p2'.1, fun i hi => (o 5 i (by decide)).trans (p2'.2.1 i hi), p2'.2.2.1, p2'.2.2.2⟩, ⟨(o 23 3 (by decide)).trans k1, k2, fun f q => ⟨(o 24 f (by decide)).trans (k3 f q).1, (o 25 f (by decide)).trans (k3 f q).2⟩, (o 3 5 (by decide)).trans k4, k5, fun i q => (o 7 i (by decide)).trans (k6 i q)⟩, CM.tired26 hg h9 p4', WR.tired h9 hg hm p5'⟩
    · intro σ3 f3 p3
      refine k_126_54 ?_
      have f13 := Fr.tr f1.cT f3.sXC.cT
      have h14 : σ3 14 3 = nI c.1 := (tC_14 f13).trans hc.h14
      rw [h14, if_neg (nI_nlt (Nat.le_refl _) (by omega))]
      refine c_startWithin (n := 300) (j := σ 214 4) p3 ((f13 0 13 (by decide)).trans hc.hj) (by decide) ht (fun σ4 f4 s1 s2 => ?_)
      have eF : sW c (so (nI c.1) c.2.2.1 (σ 214 4) c.1) 300 0 (rwS s.1 (σ 215) c.1) 0 = ssF c (σ 214 4) (σ 215) s := rfl
      rw [eF] at s1 s2 ⊢
      have f14 : Fr scC σ σ4 := Fr.tr f1 (Fr.tr f3.sXC f4.SX.sXC)
      have e4 : ∀ f, σ4 191 f = σ1 191 f := fun f => (f4.SX 191 f (by simp [sX])).trans (f3 191 f (by simp [sX]))
      have ek : nI k + (1 : Int32) = nI (k + 1) := nI_add k 1
      rw [ek]
      unfold ssN at ih
      by_cases hz : (ssF c (σ 214 4) (σ 215) s).1 = -1
      · rw [if_pos hz] at ih ⊢
        exact ih σ4 _ f14 (fun f hf => by rw [e4 f]; exact e1 f hf)
      · rw [if_neg hz] at ih ⊢
        obtain ⟨f, hf, ef⟩ := (sW_face (c := c) (J := so (nI c.1) c.2.2.1 (σ 214 4) c.1) h9 300 0 (rwS s.1 (σ 215) c.1) 0).resolve_left hz
        rw [eF] at ef
        rw [ef] at s1 ih
        rw [nI_clamp (by omega)] at ih
        have bf := b2 f
        rw [s1, c_isFace1 ((tC_14 f14.cT).trans hc.h14) h9 hf, if_neg (by decide), if_pos (by rw [s1]; exact zin_nI (by omega) (by decide)), if_pos (by rw [s1]; exact zin_nI (by omega) (by decide)), s1, zcl (by omega), e4 f, e1 f hf, nI_1, nI_1]
        have fin : ∀ w, Z (d + 6) 126 Q 34 [.ref 0, .int x, .int (nI n), .int (sdN s.1 c.1), .int (nI (s.2.1 + 1)), .int (if s.2.2.1 = -1 then (ssF c (σ 214 4) (σ 215) s).1 else mnI s.2.2.1 (ssF c (σ 214 4) (σ 215) s).1), .int (mxI s.2.2.2.1 (ssF c (σ 214 4) (σ 215) s).1), .int (nI (k + 1)), w] [] (zup σ4 191 f (nI (s.2.2.2.2 f + 1))) := fun w => by
          refine ih _ w (Fr.tr f14 (Fr.up (sc_191 f))) (fun g hg => ?_)
          show (zup σ4 191 f (nI (s.2.2.2.2 f + 1))) 191 g = nI (upN s.2.2.2.2 f (s.2.2.2.2 f + 1) g)
          rw [zup_eq, zput_app, if_pos rfl]
          by_cases q : g = f
          · rw [q, upd_eq, upN_eq]
          · rw [upd_ne q, upN_ne q, e4 g]; exact e1 g hg
        by_cases h5 : s.2.2.1 = -1
        · rw [if_pos h5] at fin
          rw [if_pos h5, s_mx]
          exact fin _
        · rw [if_neg h5] at fin
          rw [if_neg h5, s_mn, s_mx]
          exact fin _
  · intro σ1 w8 f1 e1
    obtain ⟨b1, b2⟩ := ssR_le (c := c) (j := σ 214 4) (r0 := σ 215) (x := x) n
    generalize hS : ssR c (σ 214 4) (σ 215) x n = s at hq e1 b1 b2
    refine k_126_34 ?_
    have h14 : σ1 14 3 = nI c.1 := (tC_14 f1.cT).trans hc.h14
    rw [if_neg (nI_nlt (Nat.le_refl _) (by omega)), c_mostInTally (v := s.2.2.2.2) h14 h9 e1 (fun f _ => by have := b2 f; omega)]
    unfold ssT at hq
    cases hm : mst s.2.2.2.2 c.1 with
    | none =>
      rw [hm] at hq
      rw [if_pos (show optI none = -1 from rfl)]
      exact c_tell4 (fun σ2 f2 t2 => hq σ2 (Fr.tr f1.cT f2.sTC) t2)
    | some m =>
      rw [hm] at hq
      obtain ⟨m1, -⟩ := mst_lt _ _ _ hm
      rw [if_neg (show ¬ optI (some m) = -1 from nI_m1 (by omega)), show optI (some m) = nI m from rfl, if_pos (zin_nI (by omega) (by decide)), zcl (by omega), e1 m m1]
      exact c_tell4 (fun σ2 f2 t2 => hq σ2 (Fr.tr f1.cT f2.sTC) t2)
