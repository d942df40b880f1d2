/-! wall -/
theorem pRow.add {C : Nat → Nat} {L F n b : Nat} {σ σ' : zS} (h : pRow F b σ) (hC : ∀ i, L ≤ i → C i = 999) (hg : ∀ j, j < n → psn C j ≤ L ∧ (pLn C (psn C j)).1 = true) (h9 : F + n ≤ 9) (hf : ∀ o i, (17 ≤ o ∧ o ≤ 21 ∨ 32 ≤ o ∧ o ≤ 36) → (o = 18 → i < F) → σ' o i = σ o i) (hw : ∀ j, j < n → σ' 18 (F + j) = nI (pLn C (psn C j)).2.2.1) (hr : ∀ i, i % 9 < F ∨ 45 ≤ i → σ' 215 i = σ 215 i) (hn : ∀ j, j < n → σ' 215 (F + j) = nI (pLn C (psn C j)).2.2.1 ∧ σ' 215 (9 + (F + j)) = 0 ∧ σ' 215 (18 + (F + j)) = -1 ∧ σ' 215 (27 + (F + j)) = -1 ∧ σ' 215 (36 + (F + j)) = 0) : pRow (F + n) b σ' := by
  obtain ⟨⟨h1, h2, h3, h4, h5⟩, h6, t, ht, w1, w2, w3, y, w4, w5⟩ := h
  have cs : ∀ f, f < F + n → f < F ∨ ∃ j, j < n ∧ f = F + j := fun f q => by
    by_cases q2 : f < F
    · exact Or.inl q2
    · exact Or.inr ⟨f - F, by omega, by omega⟩
  refine ⟨⟨fun f q => ?_, fun f q1 q2 => ?_, fun f q1 q2 => ?_, ?_, ?_⟩, CB.ag h6 (fun i q1 q2 => hr i (by omega)) (fun o i q1 q2 => hf o i (by omega) (by omega)), t, ht, ?_, fun f q => ?_, fun f q => ?_, y, w4, ?_⟩
  · rcases cs f q with q2 | ⟨j, q2, rfl⟩
    · rw [hf (17 + 1) f (by omega) (fun _ => q2), hf (17 + 2) f (by omega) (by omega), hf (17 + 3) f (by omega) (by omega), hf (17 + 4) f (by omega) (by omega), hf 17 4 (by omega) (by omega), hr f (by omega), hr (9 + f) (by omega), hr (18 + f) (by omega), hr (27 + f) (by omega), hr (36 + f) (by omega)]
      exact h1 f q2
    · obtain ⟨n1, n2, n3, n4, n5⟩ := hn j q2
      obtain ⟨m1, m2, m3⟩ := h2 (F + j) (by omega) (by omega)
      rw [hf (17 + 2) (F + j) (by omega) (by omega), hf (17 + 3) (F + j) (by omega) (by omega), hf (17 + 4) (F + j) (by omega) (by omega), hf 17 4 (by omega) (by omega), n1, n2, n3, n4, n5, m1, m2, m3, h3 (F + j) (by omega) (by omega)]
      exact ⟨hw j q2, rfl, rfl, rfl, rfl⟩
  · rw [hf (17 + 2) f (by omega) (by omega), hf (17 + 3) f (by omega) (by omega), hf (17 + 4) f (by omega) (by omega)]
    exact h2 f (by omega) q2
  · rw [hf 17 4 (by omega) (by omega)]; exact h3 f (by omega) q2
  · rw [hf 17 5 (by omega) (by omega), hr 45 (by omega)]; exact h4
  · rw [hf 17 6 (by omega) (by omega), hr 46 (by omega)]; exact h5
  · rw [hr 46 (by omega)]; exact w1
  · rcases cs f q with q2 | ⟨j, q2, rfl⟩
    · rw [hr f (by omega)]; exact w2 f q2
    · obtain ⟨g1, g2⟩ := hg j q2
      exact ⟨(pLn C (psn C j)).2.2.1, ((pLn_le hC g1).2.2 g2).2.1, (hn j q2).1⟩
  · rcases cs f q with q2 | ⟨j, q2, rfl⟩
    · rw [hr (36 + f) (by omega)]; exact w3 f q2
    · exact Or.inl (hn j q2).2.2.2.2
  · rw [hr 47 (by omega)]; exact w5
theorem call_wall {d e b : Nat} {σ : zS} (h : Inv b σ) : Both (d + 7) 84 [.ref 0] (e + 5) 189 [.ref 214] b σ := by
  obtain ⟨C, T, hx⟩ := h.tx
  obtain ⟨F, h9, h14, h1, hwl⟩ := h.hwall
  have h80 := hx.1
  have hi : ∀ {σ1 : zS}, Fr (pWlc F) σ σ1 → ∀ o i, 18 < o → σ1 o i = σ o i := fun f o i q => f o i (decide_eq_false (by omega))
  have txr : ∀ {σ1 : zS}, Fr (pWlc F) σ σ1 → TXr C T σ1 := fun f => hx.r (hi f 214 9 (by decide)) (fun i => hi f 219 i (by decide))
  have fF : ∀ {F'}, pWall F' σ → F' = F := fun q => (nI_eq (by have := q.1; omega) (by omega)).mp (q.2.1.symm.trans h14)
  have fc : ∀ {σ1 : zS}, Fr (pWlc F) σ σ1 → Fr dWn σ σ1 := fun f => Fr.mono f (fun o i q => by
    unfold dWn scr dText dWall dRow at q
    rw [Bool.or_eq_false_iff, Bool.or_eq_false_iff, Bool.or_eq_false_iff, Bool.or_eq_false_iff, decide_eq_false_iff_not, decide_eq_false_iff_not, decide_eq_false_iff_not, decide_eq_false_iff_not] at q
    unfold pWlc
    rw [decide_eq_false_iff_not]
    omega)
  have fr : ∀ {σ1 σ2 : zS}, Fr pWq σ1 σ2 → Fr dWn σ1 σ2 := fun f => Fr.mono f (fun o i q => by
    unfold dWn scr dText at q
    rw [Bool.or_eq_false_iff, Bool.or_eq_false_iff, decide_eq_false_iff_not, decide_eq_false_iff_not] at q
    unfold pWq
    rw [decide_eq_false_iff_not]
    omega)
  -- nothing new on the wall
  have same : ∀ σ1 σ2, Fr (pWlc F) σ σ1 → Fr pWq σ1 σ2 → σ1 1 1 = 0 → σ2 214 9 = 0 → Inv b σ2 := fun σ1 σ2 f1 f2 z1 z2 => by
    have lo : ∀ o i, o < 214 → σ2 o i = σ1 o i := fun o i q => f2 o i (decide_eq_false (by omega))
    have ag : ∀ dep : Nat → Nat → Bool, (∀ o i, dep o i = true → pWlc F o i = false ∧ pWq o i = false) → AG dep σ σ2 := fun dep hd o i q => (f2 o i (hd o i q).2).trans (f1 o i (hd o i q).1)
    have e215 : σ2 215 = σ 215 := funext fun i => (f2 215 i (by simp [pWq])).trans (hi f1 215 i (by decide))
    refine Inv.wallN h (Fr.tr (fc f1) (fr f2)) (fun F' g1 g2 g3 g4 => ⟨F, ?_⟩) (TX.text0 hx ((lo 1 1 (by decide)).trans z1) z2 (fun i => (lo 2 i (by decide)).trans (f1 2 i (by simp [pWlc]))) (fun i => (f2 219 i (by simp [pWq])).trans (hi f1 219 i (by decide))))
    have := fF g1
    subst this
    refine ⟨⟨h9, ?_, ?_, fun f q => ?_, fun f q => ?_⟩, pRow.keep g2 (fun o i q1 q2 => (lo o i (by omega)).trans (f1 o i ?_)) e215, pKept.ag (ag dKept ?_) g3, pPast.ag (ag dPast ?_) g4⟩
    · exact (lo 14 3 (by decide)).trans ((f1 14 3 (by simp [pWlc])).trans h14)
    · exact (f2 214 1 (by decide)).trans ((hi f1 214 1 (by decide)).trans h1)
    · rw [lo 15 f (by decide), lo 16 f (by decide), f1 15 f (decide_eq_false (by omega)), f1 16 f (decide_eq_false (by omega)), f2 216 f (by simp [pWq]), f2 217 f (by simp [pWq]), hi f1 216 f (by decide), hi f1 217 f (by decide)]
      exact g1.2.2.2.1 f q
    · rw [f2 216 f (by simp [pWq]), hi f1 216 f (by decide)]
      exact g1.2.2.2.2 f q
    · unfold pWlc
      rw [decide_eq_false_iff_not]
      omega
    · intro o i q
      unfold dKept at q
      rw [decide_eq_true_eq] at q
      unfold pWlc pWq
      rw [decide_eq_false_iff_not, decide_eq_false_iff_not]
      omega
    · intro o i q
      unfold dPast at q
      rw [decide_eq_true_eq] at q
      unfold pWlc pWq
      rw [decide_eq_false_iff_not, decide_eq_false_iff_not]
      omega
  refine c_wall hx h9 h14 (fun hT σ1 f1 z1 => ?_) (fun k hT h76 ho σ1 f1 z1 w1 => ?_) (fun k p hT ho σ1 f1 z1 => ?_)
  · exact r_wallBegin (txr f1) (fun _ σ2 f2 z2 => ⟨rfl, same σ1 σ2 f1 f2 z1 z2⟩) (fun q => absurd q (by omega))
  · have hC : ∀ i, min T 76 ≤ i → cutC C (min T 76) i = 999 := cutC_ge C _
    have hkF := ho.2.1
    generalize hs : zup (zup σ1 14 3 (nI (F + (k + 1)))) 37 0 0 = σ2
    have g2 : ∀ o i, (o = 14 → i ≠ 3) → (o = 37 → i ≠ 0) → σ2 o i = σ1 o i := fun o i p1 p2 => by
      rw [← hs]
      simp only [zup_eq, zput_app]
      by_cases q : o = 37
      · subst q; rw [if_pos rfl, if_neg (by decide), upd_ne (p2 rfl)]
      · rw [if_neg q]
        by_cases q1 : o = 14
        · subst q1; rw [if_pos rfl, upd_ne (p1 rfl)]
        · rw [if_neg q1]
    have e14 : σ2 14 3 = nI (F + (k + 1)) := by rw [← hs]; rfl
    have e37 : σ2 37 0 = 0 := by rw [← hs]; rfl
    have hi2 : ∀ o i, 37 < o → σ2 o i = σ o i := fun o i q => (g2 o i (by omega) (by omega)).trans (hi f1 o i (by omega))
    refine r_wallYes (hx.r (hi2 214 9 (by decide)) (fun i => hi2 219 i (by decide))) hT h76 h9 ((hi2 214 1 (by decide)).trans h1) ho (fun σ3 σ4 f3 z3 f4 n4 e4 => ⟨rfl, ?_⟩)
    generalize hs5 : zup (zup σ4 214 30 0) 214 47 ((σ4 214 47) + 1) = σ5
    have g5 : ∀ o i, (o = 214 → i ≠ 30 ∧ i ≠ 47) → σ5 o i = σ4 o i := fun o i p => by
      rw [← hs5]
      simp only [zup_eq, zput_app]
      by_cases q : o = 214
      · subst q; rw [if_pos rfl, upd_ne (p rfl).2, if_pos trivial, upd_ne (p rfl).1]
      · rw [if_neg q, if_neg q]
    have lo4 : ∀ o i, o < 214 → σ4 o i = σ2 o i := fun o i q => (f4 o i (decide_eq_false (by omega))).trans (f3 o i (decide_eq_false (by omega)))
    have lo5 : ∀ o i, o < 214 → σ5 o i = σ2 o i := fun o i q => (g5 o i (by omega)).trans (lo4 o i q)
    have lo : ∀ o i, o < 214 → (o = 14 → i ≠ 3) → (o = 37 → i ≠ 0) → σ5 o i = σ1 o i := fun o i q p1 p2 => (lo5 o i q).trans (g2 o i p1 p2)
    have up4 : ∀ o i, 214 ≤ o → pWq o i = false → pCp F o i = false → σ4 o i = σ o i := fun o i q q1 q2 => (f4 o i q2).trans ((f3 o i q1).trans (hi2 o i (by omega)))
    have up5 : ∀ o i, 214 ≤ o → (o = 214 → i ≠ 30 ∧ i ≠ 47) → pWq o i = false → pCp F o i = false → σ5 o i = σ o i := fun o i q q3 q1 q2 => (g5 o i q3).trans (up4 o i q q1 q2)
    have e47 : σ4 214 47 = σ 214 47 := up4 214 47 (by decide) (by decide) (by simp [pCp])
    have e547 : σ5 214 47 = σ 214 47 + 1 := by rw [← hs5, e47]; rfl
    have e530 : σ5 214 30 = 0 := by rw [← hs5]; rfl
    have e51 : σ5 214 1 = nI (F + (k + 1)) := (g5 214 1 (fun _ => by decide)).trans e4
    have hgk : ∀ j, j < k + 1 → psn (cutC C (min T 76)) j ≤ min T 76 ∧ (pLn (cutC C (min T 76)) (psn (cutC C (min T 76)) j)).1 = true := fun j q => by
      refine ⟨psn_le (F := F) hC j (fun i hi => ho.1 i (by omega)), ?_⟩
      by_cases q2 : j = k
      · rw [q2]; exact ho.2.2.1
      · exact (ho.1 j (by omega)).2.1
    have fD : Fr dWn σ σ5 := by
      refine Fr.tr (fc f1) (Fr.tr (?_ : Fr dWn σ1 σ2) (Fr.tr (fr f3) (Fr.tr (?_ : Fr dWn σ3 σ4) (?_ : Fr dWn σ4 σ5))))
      · exact fun o i q => g2 o i (by rintro rfl rfl; exact absurd q (by decide)) (by rintro rfl rfl; exact absurd q (by decide))
      · refine Fr.mono f4 (fun o i q => ?_)
        unfold dWn dWall dRow at q
        rw [Bool.or_eq_false_iff, Bool.or_eq_false_iff, Bool.or_eq_false_iff, Bool.or_eq_false_iff, decide_eq_false_iff_not, decide_eq_false_iff_not] at q
        unfold pCp
        rw [decide_eq_false_iff_not]
        omega
      · exact fun o i q => g5 o i (by rintro rfl; exact ⟨by rintro rfl; exact absurd q (by decide), by rintro rfl; exact absurd q (by decide)⟩)
    refine Inv.wallN h fD (fun F' g1 gr gk gp => ⟨F + (k + 1), ?_⟩) (TX.text0 hx ((lo 1 1 (by decide) (by decide) (by decide)).trans z1) ((g5 214 9 (fun _ => by decide)).trans ((f4 214 9 (by simp [pCp])).trans z3)) (fun i => (lo 2 i (by decide) (fun q => absurd q (by decide)) (fun q => absurd q (by decide))).trans (f1 2 i (by simp [pWlc]))) (fun i => up5 219 i (by decide) (fun q => absurd q (by decide)) (by simp [pWq]) (by simp [pCp])))
    have := fF g1
    subst this
    refine ⟨⟨by omega, (lo5 14 3 (by decide)).trans e14, e51, fun f q => ?_, fun f q => ?_⟩, ?_, ?_, ?_⟩
    · by_cases qf : f < F'
      · rw [lo 15 f (by decide) (fun q => absurd q (by decide)) (fun q => absurd q (by decide)), lo 16 f (by decide) (fun q => absurd q (by decide)) (fun q => absurd q (by decide)), f1 15 f (decide_eq_false (by omega)), f1 16 f (decide_eq_false (by omega)), up5 216 f (by decide) (fun q => absurd q (by decide)) (by simp [pWq]) (decide_eq_false (by omega)), up5 217 f (by decide) (fun q => absurd q (by decide)) (by simp [pWq]) (decide_eq_false (by omega))]
        exact g1.2.2.2.1 f qf
      · obtain ⟨j, rfl⟩ : ∃ j, f = F' + j := ⟨f - F', by omega⟩
        obtain ⟨-, m1, m2, -⟩ := n4 j (by omega)
        obtain ⟨-, m3, m4⟩ := w1 j (by omega)
        rw [lo 15 _ (by decide) (fun q => absurd q (by decide)) (fun q => absurd q (by decide)), lo 16 _ (by decide) (fun q => absurd q (by decide)) (fun q => absurd q (by decide)), m3, m4, g5 216 _ (fun q => absurd q (by decide)), g5 217 _ (fun q => absurd q (by decide)), m1, m2]
        exact ⟨rfl, rfl⟩
    · by_cases qf : f < F'
      · rw [up5 216 f (by decide) (fun q => absurd q (by decide)) (by simp [pWq]) (decide_eq_false (by omega))]
        exact g1.2.2.2.2 f qf
      · obtain ⟨j, rfl⟩ : ∃ j, f = F' + j := ⟨f - F', by omega⟩
        obtain ⟨-, m1, -⟩ := n4 j (by omega)
        obtain ⟨p1, p2⟩ := hgk j (by omega)
        rw [g5 216 _ (fun q => absurd q (by decide)), m1]
        exact ⟨_, ((pLn_le hC p1).2.2 p2).2.2.2.1, ((pLn_le hC p1).2.2 p2).2.2.2.2, rfl⟩
    · refine pRow.add (n := k + 1) gr hC hgk (by omega) (fun o i q1 q2 => (lo o i (by omega) (by omega) (by omega)).trans (f1 o i ?_)) (fun j q => ?_) (fun i q => up5 215 i (by decide) (fun q => absurd q (by decide)) (by simp [pWq]) (decide_eq_false (by omega))) (fun j q => ?_)
      · unfold pWlc
        rw [decide_eq_false_iff_not]
        omega
      · rw [lo 18 _ (by decide) (fun q => absurd q (by decide)) (fun q => absurd q (by decide))]
        exact (w1 j q).1
      · obtain ⟨m0, -, -, m1, m2, m3, m4⟩ := n4 j q
        have e : ∀ i, σ5 215 i = σ4 215 i := fun i => g5 215 i (fun q => absurd q (by decide))
        rw [e, e, e, e, e]
        exact ⟨m0, m1, m2, m3, m4⟩
    · obtain ⟨m, k1, k2, k3⟩ := gk
      refine ⟨m + 1, by omega, ?_, fun j hj => ?_⟩
      · rw [e547, k2]; exact nI_add m 1
      · have es : ∀ o i, 192 ≤ o → o < 214 → σ5 o i = σ o i := fun o i q1 q2 => (lo o i q2 (by omega) (by omega)).trans (hi f1 o i (by omega))
        have e2 : ∀ o i, 234 ≤ o → σ5 o i = σ o i := fun o i q => up5 o i (by omega) (by omega) (decide_eq_false (by omega)) (decide_eq_false (by omega))
        rcases k3 j hj with ⟨q1, q2⟩ | ⟨q1, q2, G, n, q3, q4, q5, q6, q7, q8⟩
        · exact Or.inl ⟨(es _ _ (by omega) (by omega)).trans q1, (e2 _ _ (by omega)).trans q2⟩
        · refine Or.inr ⟨(es _ _ (by omega) (by omega)).trans q1, (e2 _ _ (by omega)).trans q2, G, n, by omega, by omega, ⟨fun q => by omega, fun q => by omega⟩, (es _ _ (by omega) (by omega)).trans q6, (e2 _ _ (by omega)).trans q7, ?_⟩
          rw [show (fun i => σ5 234 (288 * j + i)) = (fun i => σ 234 (288 * j + i)) from funext fun i => e2 234 _ (by omega)]
          exact SN.ag q8 (fun o i p1 p2 => es o i (by omega) (by omega))
    · obtain ⟨s, x, p1, p2, p3, p4, p5, p6⟩ := gp
      exact ⟨0, x, by decide, p2, (lo5 37 0 (by decide)).trans e37, (lo 37 2 (by decide) (by decide) (by decide)).trans ((hi f1 37 2 (by decide)).trans p4), e530, fun j hj => absurd hj (Nat.not_lt_zero j)⟩
  · refine r_wallNo (txr f1) hT h9 ((hi f1 214 1 (by decide)).trans h1) ho (fun σ2 f2 z2 => ⟨rfl, same σ1 σ2 f1 f2 z1 z2⟩)
