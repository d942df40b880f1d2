theorem dMs_pR {o i : Nat} (h : pR 215 o i = true) : dMs o i = true := by
  unfold pR at h
  rw [Bool.or_eq_true, Bool.and_eq_true, Bool.or_eq_true, decide_eq_true_eq, decide_eq_true_eq, decide_eq_true_eq, decide_eq_true_eq] at h
  rcases h with rfl | ⟨rfl, h⟩
  · exact dMs_row (Or.inr (Or.inl rfl))
  · have e : ∀ i, i < 29 → ((13 ≤ i ∧ i ≤ 17) ∨ (21 ≤ i ∧ i ≤ 28)) → dMs 214 i = true := by decide
    exact e i (by omega) h
theorem call_minute {d e b : Nat} {σ : zS} (h : Inv b σ) (hb : b < 90000000) : ZC (d + 7) 94 [.ref 0] σ (fun v1 σ1 => ZC (e + 227) 217 [.ref 214] σ1 (fun v2 σ2 => v1 = v2 ∧ Inv (b + 1) σ2)) := by
  obtain ⟨c, l, t, ht, hc, hcb, s, z, R, hs, hz, hpq, hpr⟩ := h.past
  have h9 := hc.h9
  have hwr := hc.hWR
  obtain ⟨w1, w2, w3, y, w4, w5⟩ := hc.hWR
  refine k_94_0 ?_
  refine c_remember hs hz h9 hc.hcm hcb ht hc.hWR hpq (fun σ1 f1 q1 => ?_)
  have o1 : ∀ o i, o < 37 ∨ 181 < o → σ1 o i = σ o i := fun o i q => f1 o i (decide_eq_false (by omega))
  have hcm1 : CM 17 c.1 (σ 215) σ1 := CM.ag hc.hcm (fun o i p1 p2 => o1 o i (by omega))
  have hcb1 : CB 32 (σ 215) σ1 := CB.ag hcb (fun _ _ _ => rfl) (fun o i p1 p2 => o1 o i (by omega))
  have hCW : CW 14 c σ1 := by
    obtain ⟨k1, k2, k3, k4, k5, k6⟩ := hc.2.2.1
    exact ⟨(o1 14 3 (by omega)).trans k1, k2, fun f q => ⟨(o1 15 f (by omega)).trans (k3 f q).1, (o1 16 f (by omega)).trans (k3 f q).2⟩, (o1 3 5 (by omega)).trans k4, k5, fun i q => (o1 7 i (by omega)).trans (k6 i q)⟩
  have hRL : RL l σ1 := by
    obtain ⟨g1, g2, g3, g4⟩ := hc.2.1
    exact ⟨(o1 3 2 (by omega)).trans g1, fun i hi => (o1 5 i (by omega)).trans (g2 i hi), g3, g4⟩
  refine c_goBy hCW (by rw [hc.1]; exact c_holds hRL _) (by rw [hc.1]; exact rvl_RVC l) hcm1 w2 w1 (by omega) w3 hcb1 w5 (by omega) (fun σ2 f2 g2 cb2 y2 m2 b2 => ?_)
  have o2 : ∀ o i, (o < 4 ∨ o = 5 ∨ (6 < o ∧ o < 14) ∨ o = 15 ∨ o = 16 ∨ (36 < o)) → σ2 o i = σ1 o i := fun o i q => f2 o i (by
    unfold pGo pw pBk
    rw [Bool.or_eq_false_iff, decide_eq_false_iff_not, decide_eq_false_iff_not]
    omega)
  have e143 : σ2 14 3 = nI c.1 := (f2 14 3 (by decide)).trans hCW.1
  refine k_147_0 ?_
  rw [c_sightOf14 (F := c.1) e143 h9, b2, m2, (o2 0 13 (by omega)).trans ((o1 0 13 (by omega)).trans hc.hj)]
  have eso : so (nI c.1) (σ2 16) (σ 214 4) c.1 = so (nI c.1) c.2.2.1 (σ 214 4) c.1 := so_cong c.1 (fun f hf => (o2 16 f (by omega)).trans (hCW.2.2.1 f hf).2)
  rw [eso]
  refine c_tell2 (fun σ3 f3 t3 => ?_)
  have o3 : ∀ o i, o ≠ 0 → o ≠ 190 → σ3 o i = σ2 o i := fun o i p1 p2 => f3 o i (decide_eq_false (by omega))
  rw [(o3 14 4 (by decide) (by decide)).trans y2]
  have ok : ∀ o i, 182 < o → o ≠ 190 → σ3 o i = σ o i := fun o i p1 p2 => (o3 o i (by omega) p2).trans ((o2 o i (by omega)).trans (o1 o i (by omega)))
  refine k_217_0 ?_
  have e215 : (zup σ3 214 12 0) 215 = σ 215 := funext fun i => ok 215 i (by decide) (by decide)
  refine r_remember215 hs (PRr.ag hpr (ok 214 30 (by decide) (by decide)) (fun i => ok 223 i (by decide) (by decide))) (fun σ4 f4 q4 => ?_)
  rw [e215] at q4
  have o4 : ∀ o i, o ≠ 223 → (o = 214 → i ≠ 12 ∧ i ≠ 30) → σ4 o i = σ3 o i := fun o i p1 p2 => by
    refine (f4 o i (decide_eq_false (by omega))).trans ?_
    by_cases h214 : o = 214
    · subst h214
      rw [zup_eq, zput_app, if_pos rfl, upd_ne (p2 rfl).1]
    · rw [zup_eq, zput_app, if_neg h214]
  have ok4 : ∀ o i, 182 < o → o ≠ 190 → o ≠ 223 → (o = 214 → i ≠ 12 ∧ i ≠ 30) → σ4 o i = σ o i := fun o i p1 p2 p3 p4 => (o4 o i p3 p4).trans (ok o i p1 p2)
  have e215' : σ4 215 = σ 215 := funext fun i => ok4 215 i (by decide) (by decide) (by decide) (fun q => absurd q (by decide))
  have hPF : PF 215 c l t σ4 := by
    obtain ⟨c1, -, ⟨-, -, -, -, k5, -⟩, -, c5, c6, c7, ⟨m1, m2, m3, m4⟩, -, -, -⟩ := hc
    refine ⟨c1, RRef.ag c5 (ok4 214 20 (by decide) (by decide) (by decide) (fun _ => ⟨by decide, by decide⟩)) (fun i => ok4 222 i (by decide) (by decide) (by decide) (fun q => absurd q (by decide))), (ok4 214 6 (by decide) (by decide) (by decide) (fun _ => ⟨by decide, by decide⟩)).trans c6, k5, ?_, ⟨(ok4 214 1 (by decide) (by decide) (by decide) (fun _ => ⟨by decide, by decide⟩)).trans m1, ?_, ?_, m4⟩, ?_⟩
    · rw [← c7]; exact funext fun i => ok4 218 i (by decide) (by decide) (by decide) (fun q => absurd q (by decide))
    · rw [← m2]; exact funext fun i => ok4 216 i (by decide) (by decide) (by decide) (fun q => absurd q (by decide))
    · rw [← m3]; exact funext fun i => ok4 217 i (by decide) (by decide) (by decide) (fun q => absurd q (by decide))
    · rw [e215']; exact hwr
  have h7 : σ4 214 7 = b2i false := (ok4 214 7 (by decide) (by decide) (by decide) (fun _ => ⟨by decide, by decide⟩)).trans hc.2.2.2.2.2.2.2.2.2.1
  refine r_passT215 (fr := false) hPF h7 (by omega) (fun σ5 f5 p5 e5 y5 b5 m5 => ?_)
  rw [e215'] at e5 y5 b5 m5
  rw [b5]
  refine r_tellN (TLr.zero _ (fun _ => 0)) (by decide) (fun σ6 f6 t6 => ?_)
  have g6 : ∀ i, i ≠ 11 → σ6 214 i = σ5 214 i := fun i q => (f6 214 i (decide_eq_false (by omega))).trans (by rw [zup_eq, zput_app, if_pos rfl, upd_ne q])
  have o6 : ∀ o i, o ≠ 214 → o ≠ 220 → σ6 o i = σ5 o i := fun o i p1 p2 => (f6 o i (decide_eq_false (by omega))).trans (by rw [zup_eq, zput_app, if_neg p1])
  obtain ⟨-, -, -, -, -, ⟨n1, -, n3, -⟩, -⟩ := p5
  have e4 : σ5 214 4 = σ 214 4 := (f5 214 4 (by decide)).trans (ok4 214 4 (by decide) (by decide) (by decide) (fun _ => ⟨by decide, by decide⟩))
  rw [r_falseOnes (F := c.1) ((g6 1 (by decide)).trans n1) h9, g6 26 (by decide), g6 28 (by decide), g6 4 (by decide), y5, m5, ys_ms h9, e4, show σ6 217 = c.2.2.1 from (funext fun i => o6 217 i (by decide) (by decide)).trans n3]
  refine r_tellN t6 (by decide) (fun σ7 f7 t7 => ?_)
  have o7 : ∀ o i, o ≠ 220 → (o = 214 → i ≠ 11) → σ7 o i = σ6 o i := fun o i p1 p2 => f7 o i (decide_eq_false (by omega))
  have lo : ∀ o i, o < 214 → σ7 o i = σ3 o i := fun o i p1 => (o7 o i (by omega) (fun q => absurd q (by omega))).trans ((o6 o i (by omega) (by omega)).trans ((f5 o i (by
    unfold pR
    rw [decide_eq_false (show ¬ o = 215 by omega), decide_eq_false (show ¬ o = 214 by omega)]
    rfl)).trans (o4 o i (by omega) (fun q => absurd q (by omega)))))
  have frA : ∀ {a b : zS}, Fr dAs a b → Fr dMs a b := fun h => fr_dMs h (fun _ _ => dMs_A)
  have frR : ∀ {a b : zS}, Fr frTR a b → Fr dMs a b := fun h => fr_dMs h (fun o i q => by
    rcases of_decide_eq_true q with ⟨rfl, rfl⟩ | rfl
    · exact dMs_T rfl
    · exact dMs_T rfl)
  have frC : Fr dMs σ2 σ3 := fr_dMs f3 (fun o i q => by
    rcases of_decide_eq_true q with ⟨rfl, rfl⟩ | rfl
    · exact dMs_T rfl
    · exact dMs_T rfl)
  have fall : Fr dMs σ σ7 := Fr.tr (frA (fr_dAs1 f1)) (Fr.tr (fr_dMs f2 (fun _ _ => dMs_go)) (Fr.tr frC (Fr.tr (Fr.up (by decide)) (Fr.tr (frA (fr_dAs2 f4)) (Fr.tr (fr_dMs f5 (fun _ _ => dMs_pR)) (Fr.tr (Fr.up (by decide)) (Fr.tr (frR f6) (frR f7))))))))
  have hr7 : σ7 215 = ms c false (σ 215) := by
    rw [← e5]
    exact funext fun i => (o7 215 i (by decide) (fun q => absurd q (by decide))).trans (o6 215 i (by decide) (by decide))
  refine ⟨(((o7 214 26 (by decide) (fun _ => by decide)).trans (g6 26 (by decide))).trans y5).symm, Inv.movedT h hc ht (s12_le hs) (Nat.mod_lt (z + 1) (by decide)) fall (CM.ag g2 (fun o i p1 p2 => (lo o i (by omega)).trans (o3 o i (by omega) (by omega)))) (CB.ag cb2 (fun _ _ _ => rfl) (fun o i p1 p2 => (lo o i (by omega)).trans (o3 o i (by omega) (by omega)))) hr7 (ms_WR h9 hwr) (PQ.ag q1 (fun o i p1 p2 => (lo o i (by omega)).trans ((o3 o i (by omega) (by omega)).trans (o2 o i (by omega))))) (PRr.ag q4 ?_ (fun i => ?_)) ⟨2, by decide, (lo 0 12 (by decide)).trans t3.1, t7.1, fun i hi => ?_⟩⟩
  · exact (o7 214 30 (by decide) (fun _ => by decide)).trans ((g6 30 (by decide)).trans (f5 214 30 (by decide)))
  · exact (o7 223 i (by decide) (fun q => absurd q (by decide))).trans ((o6 223 i (by decide) (by decide)).trans (f5 223 i rfl))
  · rw [lo 190 i (by decide), t3.2 i hi, t7.2 i hi]
    have : i = 0 ∨ i = 1 := by omega
    rcases this with rfl | rfl
    · rfl
    · rfl
