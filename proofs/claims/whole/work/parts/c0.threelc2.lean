section LAW6
variable {p : Program} {l : Launch} {e : Env} {s : State} {m : MethodId} {below : List Frame} {meth : Method} {c : Code} {b L : Nat} {xs : Nat → Int32} {D : va_G} {g : zG}
variable {H : Heap} {locs : List Loc} {cells slots : Nat} {ls : Array Slot} {σ : zS}
theorem lc_16 (hst : l.stackTraces = false) (C : LC p s m meth c b L xs D g) (hte : TE g s) (hw : LW D g s σ H locs) {i B : Nat} (hl : LL g b (nI i) ls) (hi : i + 5 ≤ L) (hcc : cells + 1 ≤ 601024) (hss : slots + 6 ≤ 7293033) (hI : Inv B σ)
    (kk : ∀ H1 locs1 ls1 σ2, LW D g s σ2 H1 locs1 → Inv (B + 2000) σ2 → LL g b (nI i) ls1 → WW p l e s m b below meth c H1 locs1 (cells + 1) (slots + 6) 1614 ls1 []) : WW p l e s m b below meth c H locs cells slots 703 ls [] := by
  obtain ⟨cx, lr, t, ht, hc, hcb, -⟩ := hI.past
  obtain ⟨yy, hby, hyy⟩ := hcb.y
  have h9 := hc.h9
  have hN : (if yy < 60 then yy else 60) ≤ 60 := by split <;> omega
  have hpr : ∀ sig, parseMethodDescriptor hy_book.desc = some sig → 2 + 2 = sig.parameters.length := by
    intro sig hs
    have h2 : (parseMethodDescriptor hy_book.desc).map (fun d => d.parameters.length) = some 4 := by decide +kernel
    rw [hs] at h2
    exact (Option.some.inj h2).symm
  generalize hx1 : xs (i + 1) = x
  generalize hy1 : xs (i + 2) = y
  have eA : argL xs i 2 = [.int x, .int y] := by simp [argL, hx1, hy1]
  have bad : ∀ v, (ZMet l D g zkS false 0 13 [.ref 32, .int x] 238 σ v 238 σ) → (v = 0 ∨ y < 0 ∨ 4 < y) → Lost 3 225 [.ref 214, .int x, .int y] B σ → WW p l e s m b below meth c H locs cells slots 703 ls [] := by
    intro v M hv hLo
    obtain ⟨v2, σ2, M2, q1, q2⟩ := zc_met (l := l) (D := D) (g := g) (d := 2) hLo (by decide) (fun w hw => by simp only [List.mem_cons, List.not_mem_nil, or_false] at hw; rcases hw with rfl | rfl | rfl <;> rfl) (show 3 ≤ (zMi 225).2.1 by decide +kernel)
    refine law_three C hte hw hl hi hcc hss (n := 2) (a := 0) (k := 100) (kr := 102) (r := 225) (dr := 2) (off := 846) (rv := 1) (v2 := v2) (σ1 := σ) (σ2 := σ2) (B := 735) (by decide) (by decide +kernel) rfl (by decide +kernel) (by decide +kernel) (y := hy_book) (ws := hw_book) rfl tw_book rfl (by decide) hpr (by rw [eA]; exact h_book_thr x y (x_book hst x y M hv)) (by decide +kernel) (by decide +kernel) tw_ref.2.1 (by decide) (by rw [eA]; exact M2) q1 (Or.inl rfl) (fun H1 locs1 ls1 h1 h2 => kk H1 locs1 ls1 σ2 h1 (Inv.mono q2 (by omega)) h2)
  rcases inN_or x (if yy < 60 then yy else 60) (by omega) with hb | ⟨j, hj, rfl⟩
  · obtain ⟨v, σ', M, rfl, rfl⟩ := zc_met (l := l) (D := D) (g := g) (d := 0) (mi := 13) (as := [.ref 32, .int x]) (σ := σ) (Q := fun v s => v = 0 ∧ σ = s) (k_13_0 (by
      rw [hby.2.1]
      rcases hb with q | q
      · rw [if_pos q]; exact ⟨rfl, rfl⟩
      · split
        · exact ⟨rfl, rfl⟩
        · rw [if_neg (Int32.not_lt.mpr q)]; exact ⟨rfl, rfl⟩)) (by decide) (fun w hw => by simp only [List.mem_cons, List.not_mem_nil, or_false] at hw; rcases hw with rfl | rfl <;> rfl) (show 2 ≤ (zMi 13).2.1 by decide +kernel)
    exact bad 0 M (Or.inl rfl) (call_bookX (e := 0) hI hyy hby.1 (Or.inl hb))
  · rcases rng0 y 4 (n := 4) (by decide) rfl with hy | ⟨k, hk, rfl, y1, y2⟩
    · obtain ⟨v, σ', M, rfl, rfl⟩ := zc_met (l := l) (D := D) (g := g) (d := 0) (mi := 13) (as := [.ref 32, .int (nI j)]) (σ := σ) (Q := fun v s => v = 1 ∧ σ = s) (k_13_0 (by
        rw [hby.2.1, if_neg (nI_pos (by omega)), if_pos (nI_lt hj (by omega))]; exact ⟨rfl, rfl⟩)) (by decide) (fun w hw => by simp only [List.mem_cons, List.not_mem_nil, or_false] at hw; rcases hw with rfl | rfl <;> rfl) (show 2 ≤ (zMi 13).2.1 by decide +kernel)
      exact bad 1 M (Or.inr hy) (call_bookX (e := 0) hI hyy hby.1 (Or.inr hy))
    · obtain ⟨v, σ', M, rfl, rfl⟩ := zc_met (l := l) (D := D) (g := g) (d := 5) (mi := 98) (as := [.ref 0, .int (nI j), .int (nI k)]) (σ := σ) (Q := fun v s => v = bV cx.1 σ yy j k ∧ σ = s) ((cv_book (d := 0) (e := 0) hI hc hby hyy hj hk).1 _ ⟨rfl, rfl⟩) (by decide) (fun w hw => by simp only [List.mem_cons, List.not_mem_nil, or_false] at hw; rcases hw with rfl | rfl | rfl <;> rfl) (show 3 ≤ (zMi 98).2.1 by decide +kernel)
      have hIo := hI.out (bV cx.1 σ yy j k)
      have hco : Ctx cx lr t (zup σ 237 0 (bV cx.1 σ yy j k)) := hc
      have hbo : CBy ((zup σ 237 0 (bV cx.1 σ yy j k)) 215) yy (zup σ 237 0 (bV cx.1 σ yy j k)) := hby
      obtain ⟨v2, σ2, M2, q1, q2⟩ := zc_met (l := l) (D := D) (g := g) (d := 3) (mi := 225) (as := [.ref 214, .int (nI j), .int (nI k)]) (σ := zup σ 237 0 (bV cx.1 σ yy j k)) (Q := fun v s => v = bV cx.1 σ yy j k ∧ s = zup (zup σ 237 0 (bV cx.1 σ yy j k)) 214 12 0) ((cv_book (d := 0) (e := 0) hIo hco hbo hyy hj hk).2 _ ⟨rfl, rfl⟩) (by decide) (fun w hw => by simp only [List.mem_cons, List.not_mem_nil, or_false] at hw; rcases hw with rfl | rfl | rfl <;> rfl) (show 3 ≤ (zMi 225).2.1 by decide +kernel)
      refine law_three C hte hw hl hi hcc hss (n := 2) (a := 0) (k := 100) (kr := 102) (r := 225) (dr := 3) (off := 846) (rv := 0) (v2 := v2) (σ1 := zup σ 237 0 (bV cx.1 σ yy j k)) (σ2 := σ2) (B := 735) (by decide) (by decide +kernel) rfl (by decide +kernel) (by decide +kernel) (y := hy_book) (ws := hw_book) rfl tw_book rfl (by decide) hpr (by rw [eA]; exact h_book_ok (d := 5) (by decide) (nI j) (nI k) M) (by decide +kernel) (by decide +kernel) tw_ref.2.1 (by decide) (by rw [eA]; exact M2) (by rw [q2]; rfl) (Or.inr ⟨rfl, by rw [q2, q1]; rfl⟩) (fun H1 locs1 ls1 h1 h2 => kk H1 locs1 ls1 σ2 h1 (Inv.mono (b := B) (by rw [q2]; exact Inv.sc hIo (FrRs fr12)) (by omega)) h2)
theorem lc_48 (hst : l.stackTraces = false) (C : LC p s m meth c b L xs D g) (hte : TE g s) (hw : LW D g s σ H locs) {i B : Nat} (hl : LL g b (nI i) ls) (hi : i + 5 ≤ L) (hcc : cells + 1 ≤ 601024) (hss : slots + 6 ≤ 7293033) (hI : Inv B σ)
    (kk : ∀ H1 locs1 ls1 σ2, LW D g s σ2 H1 locs1 → Inv (B + 2000) σ2 → LL g b (nI i) ls1 → WW p l e s m b below meth c H1 locs1 (cells + 1) (slots + 6) 1614 ls1 []) : WW p l e s m b below meth c H locs cells slots 1558 ls [] := by
  obtain ⟨k, hk16, k1, k2, k3⟩ : pTold σ := by
    obtain ⟨F, l9, W9, -, -, -, -, -, -, h7, -⟩ := hI
    exact h7
  have hpr : ∀ sig, parseMethodDescriptor hy_row.desc = some sig → 1 + 2 = sig.parameters.length := by
    intro sig hs
    have h2 : (parseMethodDescriptor hy_row.desc).map (fun d => d.parameters.length) = some 3 := by decide +kernel
    rw [hs] at h2
    exact (Option.some.inj h2).symm
  generalize hx1 : xs (i + 1) = x
  have eA : argL xs i 1 = [.int x] := by simp [argL, hx1]
  rcases inN_or x k (by omega) with hb | ⟨j, hj, rfl⟩
  · obtain ⟨v2, σ2, M2, q1, q2⟩ := zc_met (l := l) (D := D) (g := g) (d := 2) (call_rowX (e := 0) hI k2 hk16 hb) (by decide) (fun w hw => by simp only [List.mem_cons, List.not_mem_nil, or_false] at hw; rcases hw with rfl | rfl <;> rfl) (show 2 ≤ (zMi 273).2.1 by decide +kernel)
    refine law_three C hte hw hl hi hcc hss (n := 1) (a := 0) (k := 227) (kr := 230) (r := 273) (dr := 2) (off := 3) (rv := 1) (v2 := v2) (σ1 := σ) (σ2 := σ2) (B := 1578) (by decide) (by decide +kernel) rfl (by decide +kernel) (by decide +kernel) (y := hy_row) (ws := hw_row) rfl tw_row rfl (by decide) hpr (by rw [eA]; exact h_row_thr x (x_row hst x (by rw [k1]; exact hb))) (by decide +kernel) (by decide +kernel) tw_ref.2.2.1 (by decide) (by rw [eA]; exact M2) q1 (Or.inl rfl) (fun H1 locs1 ls1 h1 h2 => kk H1 locs1 ls1 σ2 h1 (Inv.mono q2 (by omega)) h2)
  · obtain ⟨v, σ', M, rfl, rfl⟩ := zc_met (l := l) (D := D) (g := g) (d := 0) (mi := 130) (as := [.ref 0, .int (nI j)]) (σ := σ) (Q := fun v s => v = σ 220 j ∧ σ = s) ((cv_row (d := 0) (e := 0) hI k1 k2 hk16 hj (k3 j hj)).1 _ ⟨rfl, rfl⟩) (by decide) (fun w hw => by simp only [List.mem_cons, List.not_mem_nil, or_false] at hw; rcases hw with rfl | rfl <;> rfl) (show 2 ≤ (zMi 130).2.1 by decide +kernel)
    have hIo := hI.out (σ 220 j)
    obtain ⟨v2, σ2, M2, q1, q2⟩ := zc_met (l := l) (D := D) (g := g) (d := 2) (mi := 273) (as := [.ref 214, .int (nI j)]) (σ := zup σ 237 0 (σ 220 j)) (Q := fun v s => v = σ 220 j ∧ s = zup (zup σ 237 0 (σ 220 j)) 214 12 0) ((cv_row (d := 0) (e := 0) hIo k1 k2 hk16 hj (k3 j hj)).2 _ ⟨rfl, rfl⟩) (by decide) (fun w hw => by simp only [List.mem_cons, List.not_mem_nil, or_false] at hw; rcases hw with rfl | rfl <;> rfl) (show 2 ≤ (zMi 273).2.1 by decide +kernel)
    refine law_three C hte hw hl hi hcc hss (n := 1) (a := 0) (k := 227) (kr := 230) (r := 273) (dr := 2) (off := 3) (rv := 0) (v2 := v2) (σ1 := zup σ 237 0 (σ 220 j)) (σ2 := σ2) (B := 1578) (by decide) (by decide +kernel) rfl (by decide +kernel) (by decide +kernel) (y := hy_row) (ws := hw_row) rfl tw_row rfl (by decide) hpr (by rw [eA]; exact h_row_ok (d := 0) (by decide) (nI j) M) (by decide +kernel) (by decide +kernel) tw_ref.2.2.1 (by decide) (by rw [eA]; exact M2) (by rw [q2]; rfl) (Or.inr ⟨rfl, by rw [q2, q1]; rfl⟩) (fun H1 locs1 ls1 h1 h2 => kk H1 locs1 ls1 σ2 h1 (Inv.mono (b := B) (by rw [q2]; exact Inv.sc hIo (FrRs fr12)) (by omega)) h2)
end LAW6
