/-! a yawn begun by hand -/
theorem c_canYawn0 {d : Nat} {σ : zS} {F : Nat} {x : Int32} (hF : σ 14 3 = nI F) (hx : x < 0 ∨ nI F ≤ x) (Q : Int32 → zS → Prop) : ZC (d + 5) 136 [.ref 0, .int x] σ Q = Q 0 σ := by
  refine s_of (fun Q h => k_136_0 ?_) Q
  refine k_135_0 ?_
  rw [c_isFace0 hF hx, if_pos rfl, if_pos rfl]
  exact h
theorem r_canYawn0 {d : Nat} {σ : zS} {F : Nat} {x : Int32} (hF : σ 214 1 = nI F) (h9 : F ≤ 9) (hx : x < 0 ∨ nI F ≤ x) (Q : Int32 → zS → Prop) : ZC (d + 3) 210 [.ref 214, .ref 215, .int x] σ Q = Q 0 σ := by
  refine s_of (fun Q h => k_210_0 ?_) Q
  rw [r_isFace0 hF h9 hx, if_pos rfl]
  exact h
theorem call_yawn {d e b : Nat} {σ : zS} (x y : Int32) (h : Inv b σ) : Both (d + 6) 91 [.ref 0, .int x, .int y] (e + 4) 212 [.ref 214, .int x, .int y] b σ := by
  obtain ⟨c, l, t, ht, hc, hcb, s, z, R, hs, hz, hpq, hpr⟩ := h.past
  have h9 := hc.h9
  have hR3 : ∀ σ3, Fr tC σ σ3 → (zup σ3 214 12 0) 214 1 = nI c.1 := fun σ3 f3 => (fr12 (σ := σ3) 214 1 (by decide)).trans ((f3 214 1 (by decide)).trans hc.hR)
  have h215 : ∀ σ3, Fr tC σ σ3 → (zup σ3 214 12 0) 215 = σ 215 := fun σ3 f3 => (tR_215 fr12.rT).trans (tC_215 f3)
  rcases faceC x h9 with hx | ⟨f, hf, rfl⟩
  · refine both_q h 0 none (fun Q hq => ?_) (fun σ3 f3 Q hq => ?_)
    · refine k_91_0 ?_
      rw [s_isIn, c_canYawn0 hc.h14 hx]
      split
      · exact hq σ Fr.rf
      · split
        · exact hq σ Fr.rf
        · exact hq σ Fr.rf
    · refine k_212_0 ?_
      rw [r_canYawn0 (hR3 σ3 f3) h9 hx, if_pos rfl]
      exact hq _ fr12
  rcases rng0 y 1 (n := 1) (by decide) rfl with hy | ⟨k, hk, rfl, y1, y2⟩
  · refine both_q h 0 none (fun Q hq => ?_) (fun σ3 f3 Q hq => ?_)
    · refine k_91_0 ?_
      rw [s_isIn0 hy, if_pos rfl]
      exact hq σ Fr.rf
    · refine k_212_0 ?_
      rw [r_canYawn (hR3 σ3 f3) h9 hf, h215 σ3 f3]
      cases cyw (σ 215) f
      · rw [if_pos (show b2i false = 0 from rfl)]
        exact hq _ fr12
      · rw [if_neg (show ¬ b2i true = 0 by decide), s_in0 hy, if_pos rfl]
        exact hq _ fr12
  cases hcy : cyw (σ 215) f
  · refine both_q h 0 none (fun Q hq => ?_) (fun σ3 f3 Q hq => ?_)
    · refine k_91_0 ?_
      rw [s_isIn, if_neg y1, if_neg y2, if_neg (by decide), c_canYawn hc.h14 h9 hc.hcm hf, hcy, if_pos (show b2i false = 0 from rfl)]
      exact hq σ Fr.rf
    · refine k_212_0 ?_
      rw [r_canYawn (hR3 σ3 f3) h9 hf, h215 σ3 f3, hcy, if_pos (show b2i false = 0 from rfl)]
      exact hq _ fr12
  have hk2 : nI k = 0 ∨ nI k = 1 := by
    have : k = 0 ∨ k = 1 := by omega
    rcases this with rfl | rfl
    · exact Or.inl rfl
    · exact Or.inr rfl
  refine k_91_0 ?_
  rw [s_isIn, if_neg y1, if_neg y2, if_neg (by decide), c_canYawn hc.h14 h9 hc.hcm hf, hcy, if_neg (show ¬ b2i true = 0 by decide)]
  refine c_remember hs hz h9 hc.hcm hcb ht hc.hWR hpq (fun σ1 f1 q1 => ?_)
  have o1 : ∀ o i, o < 37 ∨ 181 < o → σ1 o i = σ o i := fun o i q => f1 o i (decide_eq_false (by omega))
  have hcm1 : CM 17 c.1 (σ 215) σ1 := CM.ag hc.hcm (fun o i p1 p2 => o1 o i (by omega))
  rw [show σ1 17 6 = σ 215 46 from hcm1.2.2.2.2]
  refine c_plan14 hcm1 h9 hf _ _ hk2 (fun σ3 f3 g3 => ?_)
  have o3 : ∀ o i, o < 17 ∨ 21 < o → σ3 o i = σ1 o i := fun o i q => f3 o i (decide_eq_false (by omega))
  refine k_212_0 ?_
  have hR : (zup σ3 214 12 0) 214 1 = nI c.1 := (o3 214 1 (by omega)).trans ((o1 214 1 (by omega)).trans hc.hR)
  have e215 : (zup σ3 214 12 0) 215 = σ 215 := funext fun i => (o3 215 i (by omega)).trans (o1 215 i (by omega))
  rw [r_canYawn hR h9 hf, e215, hcy, if_neg (show ¬ b2i true = 0 by decide), s_in, if_neg y1, if_neg y2, if_neg (by decide)]
  refine r_remember215 hs (PRr.ag hpr ((o3 214 30 (by omega)).trans (o1 214 30 (by omega))) (fun i => (o3 223 i (by omega)).trans (o1 223 i (by omega)))) (fun σ4 f4 q4 => ?_)
  rw [e215] at q4
  have e215' : σ4 215 = σ 215 := funext fun i => (f4 215 i (by simp [pRr])).trans (congrFun e215 i)
  rw [r_begins215 (by omega)]
  have eg : upd (upd (upd (σ4 215) (18 + f) (σ4 215 46)) (27 + f) (-1)) (36 + f) (nI k) = bg (σ 215) f (nI k) := by
    rw [e215']
    rfl
  rw [eg]
  generalize hs5 : zput σ4 215 (bg (σ 215) f (nI k)) = σ5
  have e5 : σ5 215 = bg (σ 215) f (nI k) := by rw [← hs5]; simp only [zput_app, ↓reduceIte]
  have o5 : ∀ o i, o ≠ 215 → σ5 o i = σ4 o i := fun o i q => by
    rw [← hs5, zput_app, if_neg q]
  have o4 : ∀ o i, o ≠ 214 → o ≠ 223 → σ4 o i = σ3 o i := fun o i p1 p2 => (f4 o i (decide_eq_false (by omega))).trans (by rw [zup_eq, zput_app, if_neg p1])
  refine ⟨rfl, Inv.moved h hc ht (s12_le hs) (Nat.mod_lt (z + 1) (by decide)) ?_ (CM.ag g3 (fun o i p1 p2 => (o5 o i (by omega)).trans (o4 o i (by omega) (by omega)))) (CB.ag hcb (fun _ _ _ => rfl) (fun o i p1 p2 => (o5 o i (by omega)).trans ((o4 o i (by omega) (by omega)).trans ((o3 o i (by omega)).trans (o1 o i (by omega)))))) (fun i p1 p2 => ?_) e5 (bg_WR h9 hf hk2 hc.hWR) (PQ.ag q1 (fun o i p1 p2 => (o5 o i (by omega)).trans ((o4 o i (by omega) (by omega)).trans (o3 o i (by omega))))) (PRr.ag q4 (o5 214 30 (by omega)) (fun i => o5 223 i (by omega)))⟩
  · refine Fr.tr (fr_dAs1 f1) (Fr.tr (fr_dAs3 f3) (Fr.tr (Fr.up (by decide)) (Fr.tr (fr_dAs2 f4) ?_)))
    rw [← hs5]
    exact Fr.put (fun i q => by rw [dAs_o (by omega)] at q; cases q)
  · rw [upd_ne (by omega), upd_ne (by omega), upd_ne (by omega)]
