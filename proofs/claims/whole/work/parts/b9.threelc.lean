theorem Inv.out {b : Nat} {σ : zS} (h : Inv b σ) (w : Int32) : Inv b (zup σ 237 0 w) := by
  obtain ⟨F, l, W, h1, h2, h3, h4, h5, h6, h7, h8, h9, h10, h11, h12⟩ := h
  have hf : Fr (fun o _ => decide (o = 237)) σ (zup σ 237 0 w) := Fr.up (by decide)
  have fin : ∀ dep : Nat → Nat → Bool, (∀ o i, dep o i = true → (fun (o : Nat) (_ : Nat) => decide (o = 237)) o i = false) → AG dep σ (zup σ 237 0 w) := fun dep q => AG.of hf q
  refine ⟨F, l, W, pWall.ag (fin dWall ?_) h1, pRow.ag (fin dRow ?_) h2, pRule.ag (fin dRule ?_) h3, pWind.ag (fin dWind ?_) h4, pText.ag (fin dText ?_) h5, pJd.ag (fin dJd ?_) h6, pTold.ag (fin dTold ?_) h7, pCrew.ag (fin dCrew ?_) h8, pSeen.ag (fin dSeen ?_) h9, pPast.ag (fin dPast ?_) h10, pKept.ag (fin dKept ?_) h11, h12⟩
  all_goals
    intro o i q
    simp only [dWall, dRow, dRule, dWind, dText, dJd, dCrew, dSeen, dPast, dKept, dTold, decide_eq_true_eq, decide_eq_false_iff_not] at q ⊢
    omega
section LAW5
variable {p : Program} {l : Launch} {e : Env} {s : State} {m : MethodId} {below : List Frame} {meth : Method} {c : Code} {b L : Nat} {xs : Nat → Int32} {D : va_G} {g : zG}
variable {H : Heap} {locs : List Loc} {cells slots : Nat} {ls : Array Slot} {σ : zS}
theorem lc_5 (hst : l.stackTraces = false) (C : LC p s m meth c b L xs D g) (hte : TE g s) (hw : LW D g s σ H locs) {i B : Nat} (hl : LL g b (nI i) ls) (hi : i + 5 ≤ L) (hcc : cells + 1 ≤ 601024) (hss : slots + 6 ≤ 7293033) (hI : Inv B σ)
    (kk : ∀ H1 locs1 ls1 σ2, LW D g s σ2 H1 locs1 → Inv (B + 2000) σ2 → LL g b (nI i) ls1 → WW p l e s m b below meth c H1 locs1 (cells + 1) (slots + 6) 1614 ls1 []) : WW p l e s m b below meth c H locs cells slots 337 ls [] := by
  obtain ⟨cx, lr, t, ht, hc⟩ := hI.ctx
  have h9 := hc.h9
  have hpr : ∀ sig, parseMethodDescriptor hy_face.desc = some sig → 2 + 2 = sig.parameters.length := by
    intro sig hs
    have h2 : (parseMethodDescriptor hy_face.desc).map (fun d => d.parameters.length) = some 4 := by decide +kernel
    rw [hs] at h2
    exact (Option.some.inj h2).symm
  generalize hx1 : xs (i + 1) = x
  generalize hy1 : xs (i + 2) = y
  have eA : argL xs i 2 = [.int x, .int y] := by simp [argL, hx1, hy1]
  have bad : ∀ v, (ZMet l D g zkS false 0 134 [.ref 0, .int x] 238 σ v 238 σ) → (v = 0 ∨ y < 0 ∨ 7 < y) → Lost 3 200 [.ref 214, .int x, .int y] B σ → WW p l e s m b below meth c H locs cells slots 337 ls [] := by
    intro v M hv hLo
    obtain ⟨v2, σ2, M2, q1, q2⟩ := zc_met (l := l) (D := D) (g := g) (d := 2) hLo (by decide) (fun w hw => by simp only [List.mem_cons, List.not_mem_nil, or_false] at hw; rcases hw with rfl | rfl | rfl <;> rfl) (show 3 ≤ (zMi 200).2.1 by decide +kernel)
    refine law_three C hte hw hl hi hcc hss (n := 2) (a := 0) (k := 48) (kr := 53) (r := 200) (dr := 2) (off := 1212) (rv := 1) (v2 := v2) (σ1 := σ) (σ2 := σ2) (B := 369) (by decide) (by decide +kernel) rfl (by decide +kernel) (by decide +kernel) (y := hy_face) (ws := hw_face) rfl tw_face rfl (by decide) hpr (by rw [eA]; exact h_face_thr x y (x_face hst x y M hv)) (by decide +kernel) (by decide +kernel) tw_ref.1 (by decide) (by rw [eA]; exact M2) q1 (Or.inl rfl) (fun H1 locs1 ls1 h1 h2 => kk H1 locs1 ls1 σ2 h1 (Inv.mono q2 (by omega)) h2)
  rcases faceC x h9 with hb | ⟨f, hf, rfl⟩
  · obtain ⟨v, σ', M, rfl, rfl⟩ := zc_met (l := l) (D := D) (g := g) (d := 0) (mi := 134) (as := [.ref 0, .int x]) (σ := σ) (Q := fun v s => v = 0 ∧ σ = s) (by rw [c_isFace0 hc.h14 hb]; exact ⟨rfl, rfl⟩) (by decide) (fun w hw => by simp only [List.mem_cons, List.not_mem_nil, or_false] at hw; rcases hw with rfl | rfl <;> rfl) (show 2 ≤ (zMi 134).2.1 by decide +kernel)
    exact bad 0 M (Or.inl rfl) (call_faceX (e := 0) x y hI (Or.inl (fun d Q => c_isFace0 hc.h14 hb Q)))
  · rcases rng0 y 7 (n := 7) (by decide) rfl with hy | ⟨k, hk, rfl, y1, y2⟩
    · obtain ⟨v, σ', M, rfl, rfl⟩ := zc_met (l := l) (D := D) (g := g) (d := 0) (mi := 134) (as := [.ref 0, .int (nI f)]) (σ := σ) (Q := fun v s => v = 1 ∧ σ = s) (by rw [c_isFace1 hc.h14 h9 hf]; exact ⟨rfl, rfl⟩) (by decide) (fun w hw => by simp only [List.mem_cons, List.not_mem_nil, or_false] at hw; rcases hw with rfl | rfl <;> rfl) (show 2 ≤ (zMi 134).2.1 by decide +kernel)
      exact bad 1 M (Or.inr hy) (call_faceX (e := 0) (nI f) y hI (Or.inr hy))
    · obtain ⟨v, σ', M, rfl, rfl⟩ := zc_met (l := l) (D := D) (g := g) (d := 3) (mi := 87) (as := [.ref 0, .int (nI f), .int (nI k)]) (σ := σ) (Q := fun v s => v = fV cx.1 σ f k ∧ σ = s) ((cv_face (d := 0) (e := 0) hI hc hf hk).1 _ ⟨rfl, rfl⟩) (by decide) (fun w hw => by simp only [List.mem_cons, List.not_mem_nil, or_false] at hw; rcases hw with rfl | rfl | rfl <;> rfl) (show 3 ≤ (zMi 87).2.1 by decide +kernel)
      have hIo := hI.out (fV cx.1 σ f k)
      have hco : Ctx cx lr t (zup σ 237 0 (fV cx.1 σ f k)) := hc
      obtain ⟨v2, σ2, M2, q1, q2⟩ := zc_met (l := l) (D := D) (g := g) (d := 2) (mi := 200) (as := [.ref 214, .int (nI f), .int (nI k)]) (σ := zup σ 237 0 (fV cx.1 σ f k)) (Q := fun v s => v = fV cx.1 σ f k ∧ s = zup (zup σ 237 0 (fV cx.1 σ f k)) 214 12 0) ((cv_face (d := 0) (e := 0) hIo hco hf hk).2 _ ⟨rfl, rfl⟩) (by decide) (fun w hw => by simp only [List.mem_cons, List.not_mem_nil, or_false] at hw; rcases hw with rfl | rfl | rfl <;> rfl) (show 3 ≤ (zMi 200).2.1 by decide +kernel)
      refine law_three C hte hw hl hi hcc hss (n := 2) (a := 0) (k := 48) (kr := 53) (r := 200) (dr := 2) (off := 1212) (rv := 0) (v2 := v2) (σ1 := zup σ 237 0 (fV cx.1 σ f k)) (σ2 := σ2) (B := 369) (by decide) (by decide +kernel) rfl (by decide +kernel) (by decide +kernel) (y := hy_face) (ws := hw_face) rfl tw_face rfl (by decide) hpr (by rw [eA]; exact h_face_ok (d := 3) (by decide) (nI f) (nI k) M) (by decide +kernel) (by decide +kernel) tw_ref.1 (by decide) (by rw [eA]; exact M2) (by rw [q2]; rfl) (Or.inr ⟨rfl, by rw [q2, q1]; rfl⟩) (fun H1 locs1 ls1 h1 h2 => kk H1 locs1 ls1 σ2 h1 (Inv.mono (b := B) (by rw [q2]; exact Inv.sc hIo (FrRs fr12)) (by omega)) h2)
end LAW5
