/-! the shortest way: the class's rounds, and the reference's -/
theorem c_measureTo {d s : Nat} {σ : zS} {c : MC} {r : Nat → Int32} {v : Nat → Nat} (hc : CW 14 c σ) (h45 : σ 17 5 = r 45) (hdl : dlOk c) (hs : s < c.1) (h1 : DW c.1 (eP c r) (wP c) s v) (h2 : DS c.1 (eP c r) (wP c) v) {Q : Int32 → zS → Prop} (hq : ∀ σ', Fr p191 σ σ' → TA c.1 v σ' → Q 0 σ') : ZC (d + 6) 161 [.ref 0, .int (nI s)] σ Q := by
  have h9 := hc.2.1
  have hF : σ 14 3 = nI c.1 := hc.1
  refine k_161_0 ?_
  refine s_fillM (fun σ0 f0 z0 => ?_)
  rw [if_pos (zin_nI (by omega) (by decide)), zcl (by omega)]
  have hloop := z_for (F := c.1) (P := fun k => ∀ u σ1 w3 w4 w5, Fr p191 σ σ1 → TA c.1 u σ1 → MU c v u s (81 * k) → MC1 c v u k → Z (d + 5) 161 Q 17 [.ref 0, .int (nI s), .int (nI k), w3, w4, w5] [] σ1) (fun k hk ih => ?_) ?_
  · refine hloop (d0 s) _ _ _ _ (Fr.tr f0 (Fr.up rfl)) (fun f hf => ?_) ⟨if_pos rfl, fun f hf => ⟨?_, ?_, fun q => ?_⟩⟩ (m_zero hdl h1 h2 hs (if_pos rfl))
    · rw [zup_eq, zput_app, if_pos rfl]
      unfold d0
      by_cases q : f = s
      · rw [q, upd_eq, if_pos rfl]; rfl
      · rw [upd_ne q, if_neg q, z0 f (by omega)]; rfl
    · unfold d0
      by_cases q : f = s
      · rw [q, if_pos rfl, h1.1]; exact Nat.le_refl _
      · rw [if_neg q]; exact h1.2.1 f hf
    · unfold d0; split <;> omega
    · unfold d0 at q ⊢
      split at q
      · rename_i q2; rw [if_pos q2]; omega
      · omega
  · intro u σ1 w3 w4 w5 f1 a1 m1 c1
    refine k_161_17 ?_
    rw [show σ1 14 3 = nI c.1 from (f1 14 3 (by decide)).trans hF, if_pos (nI_lt hk (by omega))]
    have hmid := z_for (F := c.1) (P := fun o => ∀ u σ1 w4 w5, Fr p191 σ σ1 → TA c.1 u σ1 → MU c v u s (81 * k + 9 * o) → MC1 c v u k → (∀ o', o' < o → ∀ f, f < c.1 → eP c r o' f = true → v o' < 1000000 → rkN v c.1 (v o') ≤ k → u f ≤ v o' + dlN c o') → Z (d + 5) 161 Q 30 [.ref 0, .int (nI s), .int (nI k), .int (nI o), w4, w5] [] σ1) (fun o ho ih2 => ?_) ?_
    · exact hmid u σ1 _ _ f1 a1 (m1.le (by omega)) c1 (fun o' q => absurd q (Nat.not_lt_zero _))
    · intro u σ1 w4 w5 f1 a1 m1 c1 g1
      refine k_161_30 ?_
      rw [show σ1 14 3 = nI c.1 from (f1 14 3 (by decide)).trans hF, if_pos (nI_lt ho (by omega))]
      have hin := z_for (F := c.1) (P := fun f => ∀ u σ1 w5, Fr p191 σ σ1 → TA c.1 u σ1 → MU c v u s (81 * k + 9 * o + f) → MC1 c v u k → (∀ o', o' < o → ∀ f, f < c.1 → eP c r o' f = true → v o' < 1000000 → rkN v c.1 (v o') ≤ k → u f ≤ v o' + dlN c o') → (∀ f', f' < f → eP c r o f' = true → v o < 1000000 → rkN v c.1 (v o) ≤ k → u f' ≤ v o + dlN c o) → Z (d + 5) 161 Q 44 [.ref 0, .int (nI s), .int (nI k), .int (nI o), .int (nI f), w5] [] σ1) (fun f hf ih3 => ?_) ?_
      · exact hin u σ1 _ f1 a1 (m1.le (by omega)) c1 g1 (fun f' q => absurd q (Nat.not_lt_zero _))
      · intro u σ1 w5 f1 a1 m1 c1 g1 g2
        refine k_161_44 ?_
        have e14 : σ1 14 3 = nI c.1 := (f1 14 3 (by decide)).trans hF
        have hcw : CW 14 c σ1 := by
          obtain ⟨k1, k2, k3, k4, k5, k6⟩ := hc
          exact ⟨e14, k2, fun f q => ⟨(f1 15 f (by simp [p191])).trans (k3 f q).1, (f1 16 f (by simp [p191])).trans (k3 f q).2⟩, (f1 3 5 (by decide)).trans k4, k5, fun i q => (f1 7 i (by simp [p191])).trans (k6 i q)⟩
        have zo : zin (nI o) 10 = true := zin_nI (by omega) (by decide)
        have zf : zin (nI f) 10 = true := zin_nI (by omega) (by decide)
        have zo9 : zin (nI o) 9 = true := zin_nI (by omega) (by decide)
        simp only [zo, zf, zo9, ↓reduceIte]
        rw [e14, if_pos (nI_lt hf (by omega)), zcl (by omega), zcl (by omega), a1 o ho, show nI f + (1 : Int32) = nI (f + 1) from nI_add f 1]
        have skip : (eP c r o f = true → v o < 1000000 → rkN v c.1 (v o) ≤ k → u f ≤ v o + dlN c o) → ∀ w5, Z (d + 5) 161 Q 44 [.ref 0, .int (nI s), .int (nI k), .int (nI o), .int (nI (f + 1)), w5] [] σ1 := fun hs5 w5 => by
          refine ih3 u σ1 w5 f1 a1 (m1.le (by omega)) c1 g1 (fun f' hf' => ?_)
          by_cases q : f' = f
          · rw [q]; exact hs5
          · exact g2 f' (by omega)
        by_cases huo : u o < 1000000
        · rw [tI_lt huo, if_neg (nI_m1 (by have := (m1.2 o ho).2.2 huo; omega)), c_isStep hcw ((f1 17 5 (by decide)).trans h45) hf ho]
          cases hE : eP c r o f
          · rw [if_pos (show b2i false = 0 from rfl)]
            exact skip (fun q => by rw [hE] at q; cases q) w5
          · rw [if_neg (show ¬ b2i true = 0 by decide)]
            have huB := (m1.2 o ho).2.2 huo
            obtain ⟨d1, d2, d3⟩ := hdl o ho
            obtain ⟨n1, n2, n3, n4, n5⟩ := m_step hdl h2 hs m1 c1 ho hf hE huo (by omega)
            rw [show σ1 15 o = c.2.1 o from (hcw.2.2.1 o ho).1, d1, a1 o ho, tI_lt huo, nI_add, a1 f hf]
            have upd : ∀ (x : Nat) (y : Int32) w5, x = (if u f ≤ u o + dlN c o then u f else u o + dlN c o) → y = tI x → Z (d + 5) 161 Q 44 [.ref 0, .int (nI s), .int (nI k), .int (nI o), .int (nI (f + 1)), w5] [] (zup σ1 191 f y) := fun x y w5 hx hy => by
              rw [← hx] at n1 n2 n3 n4 n5
              refine ih3 (upN u f x) _ w5 (Fr.tr f1 (Fr.up rfl)) (a1.up hy) (n1.le (by omega)) n2 (fun o' ho' f' hf' hE' hv' hr' => ?_) (fun f' hf' hE' hv' hr' => ?_)
              · exact Nat.le_trans (n5 f') (g1 o' ho' f' hf' hE' hv' hr')
              · by_cases q : f' = f
                · rw [q, upN_eq]
                  have := c1 o ho hv' hr'
                  omega
                · exact Nat.le_trans (n5 f') (g2 f' (by omega) hE' hv' hr')
            by_cases huf : u f < 1000000
            · have hufB := (m1.2 f hf).2.2 huf
              rw [tI_lt huf, if_neg (nI_m1 (by omega)), s_mn]
              refine upd _ _ _ rfl ?_
              rw [tI_lt n4]
              by_cases q : u f ≤ u o + dlN c o
              · rw [if_pos q, if_neg (nI_nlt (by omega) (by omega))]
              · rw [if_neg q, if_pos (nI_lt (by omega) (by omega)), Nat.add_comm]
            · rw [tI_ge huf, if_pos rfl]
              refine upd _ _ _ rfl ?_
              rw [tI_lt n4, if_neg (by omega), Nat.add_comm]
        · rw [tI_ge huo, if_pos rfl]
          refine skip (fun _ hv hr => ?_) w5
          have := c1 o ho hv hr
          omega
      · intro u σ1 w5 f1 a1 m1 c1 g1 g2
        refine k_161_44 ?_
        rw [show σ1 14 3 = nI c.1 from (f1 14 3 (by decide)).trans hF, if_neg (nI_nlt (Nat.le_refl _) (by omega)), show nI o + (1 : Int32) = nI (o + 1) from nI_add o 1]
        refine ih2 u σ1 _ _ f1 a1 (m1.le (by omega)) c1 (fun o' ho' f hf hE hv hr => ?_)
        by_cases q : o' = o
        · rw [q] at hE hv hr ⊢; exact g2 f hf hE hv hr
        · exact g1 o' (by omega) f hf hE hv hr
    · intro u σ1 w4 w5 f1 a1 m1 c1 g1
      refine k_161_30 ?_
      rw [show σ1 14 3 = nI c.1 from (f1 14 3 (by decide)).trans hF, if_neg (nI_nlt (Nat.le_refl _) (by omega)), show nI k + (1 : Int32) = nI (k + 1) from nI_add k 1]
      exact ih u σ1 _ _ _ f1 a1 (m1.le (by omega)) (m_round hdl h1 h2 (fun f hf => (m1.2 f hf).1) m1.1 (fun o ho f hf hE hv hr => g1 o ho f hf hE hv hr))
  · intro u σ1 w3 w4 w5 f1 a1 m1 c1
    refine k_161_17 ?_
    rw [show σ1 14 3 = nI c.1 from (f1 14 3 (by decide)).trans hF, if_neg (nI_nlt (Nat.le_refl _) (by omega))]
    refine hq σ1 f1 (fun f hf => ?_)
    have e : u f = v f := by
      by_cases q : v f < 1000000
      · exact c1 f hf q (Nat.le_of_lt (rk_F hf))
      · have := h1.2.1 f hf
        have := m1.2 f hf
        omega
    rw [a1 f hf, e]
