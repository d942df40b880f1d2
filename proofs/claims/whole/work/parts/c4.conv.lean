/-! the objects as they are born are those that the calls find -/
theorem zk_small : (List.range 238).all (fun o => (zkS o).2.2.all (fun f => Nat.blt f 1000)) = true := by decide +kernel
theorem zfok_eq {σ : zS} {o k f fC : Nat} (hf : f < 1000) (h : zfok σ o k f fC = true) : zFld o k f σ = zFld o k fC σ := by
  unfold zfok at h
  simp only [Bool.or_eq_true, Bool.and_eq_true, beq_iff_eq] at h
  rcases h with h | ⟨⟨h1, h2⟩, h3⟩
  · rw [h]
  · have h2 : 2 ≤ f := Nat.le_of_ble_eq_true h2
    obtain ⟨j, rfl⟩ : ∃ j, f = j + 2 := ⟨f - 2, by omega⟩
    subst h1
    have e : σ o k = nI (j + 1) := h3
    show Value.ref j = zdec (σ o k)
    rw [e, zenc_dec (by omega)]
theorem arrV_on {c : ClassId} {n : Nat} {f f' : Nat → Value} (h : ∀ j, j < n → f j = f' j) : arrV c n f = arrV c n f' := by
  unfold arrV
  congr 2
  exact funext fun j => h j.val j.isLt
theorem conv_at {D : va_G} {g : zG} {σ : zS} {o : Nat} {H : Heap} (ho : o < 238) (h : zkok σ o = true) (hP : va_at D zCl (g.1 + o, zcell g zkC σ o) H) : va_at D zCl (g.1 + o, zcell g zkS σ o) H := by
  have hsm := List.all_eq_true.mp zk_small o (List.mem_range.mpr ho)
  unfold zkok at h
  generalize hS : zkS o = S at h hsm
  generalize hC : zkC o = Cc at h
  obtain ⟨t, cc, fl⟩ := S
  obtain ⟨t', c', fl'⟩ := Cc
  simp only [Bool.or_eq_true, Bool.and_eq_true, beq_iff_eq] at h
  obtain ⟨rfl, h⟩ := h
  rcases h with (⟨⟨⟨rfl, rfl⟩, hl⟩, hf⟩ | ⟨⟨rfl, h1⟩, h4⟩) | ⟨⟨rfl, rfl⟩, hf⟩
  · have e : zfs g.1 σ o fl = zfs g.1 σ o fl' := by
      apply List.ext_getElem?
      intro i
      by_cases hi : i < fl.length
      · have a1 : fl[i]? = some fl[i] := List.getElem?_eq_getElem hi
        have a2 : fl'[i]? = some fl'[i] := List.getElem?_eq_getElem (by omega)
        rw [zfs_get _ _ _ a1, zfs_get _ _ _ a2]
        have h3 := List.all_eq_true.mp hf i (List.mem_range.mpr hi)
        rw [List.getD_eq_getElem?_getD, List.getD_eq_getElem?_getD, a1, a2] at h3
        have h5 : Nat.blt fl[i] 1000 = true := List.all_eq_true.mp hsm _ (List.getElem_mem hi)
        rw [Option.getD_some, Option.getD_some] at h3
        rw [zfok_eq (Nat.blt_eq.mp h5) h3]
      · rw [List.getElem?_eq_none (by rw [zfs_len]; omega), List.getElem?_eq_none (by rw [zfs_len]; omega)]
    have e2 : zcell g zkS σ o = zcell g zkC σ o := by simp only [zcell, hS, hC, e]
    rw [e2]; exact hP
  · have h1 : 1 ≤ t := Nat.le_of_ble_eq_true h1
    have h4 : t ≤ 4 := Nat.le_of_ble_eq_true h4
    have ht : t = 1 ∨ t = 2 ∨ t = 3 ∨ t = 4 := by omega
    have e2 : zcell g zkS σ o = zcell g zkC σ o := by
      rcases ht with rfl | rfl | rfl | rfl <;> simp only [zcell, hS, hC]
    rw [e2]; exact hP
  · have eS : zcell g zkS σ o = .inl (g.2.2.2.2.2, cc, .inr (.inr (.inr (.inr (fun j => some (g.1 + fl.getD j 0)))))) := by simp only [zcell, hS]
    have eC : zcell g zkC σ o = .inl (g.2.2.2.2.2, cc, .inr (.inr (.inr (.inr (fun j => zro g.1 (σ o j)))))) := by simp only [zcell, hC]
    rw [eC] at hP
    rw [eS]
    have hP : H[g.1 + o]? = some (vp_cell g.2.2.2.2.2 (cc, .inr (.inr (.inr (.inr (fun j => zro g.1 (σ o j))))))) := hP
    show H[g.1 + o]? = some (vp_cell g.2.2.2.2.2 (cc, .inr (.inr (.inr (.inr (fun j => some (g.1 + fl.getD j 0)))))))
    rw [hP, vp_cell_q, vp_cell_q]
    congr 1
    refine arrV_on (fun j hj => ?_)
    have h3 := List.all_eq_true.mp hf j (List.mem_range.mpr hj)
    have h3 : σ o j = nI (fl.getD j 0 + 1) := by simpa using h3
    have hlt : fl.getD j 0 < 1000 := by
      rw [List.getD_eq_getElem?_getD]
      by_cases hi : j < fl.length
      · rw [List.getElem?_eq_getElem hi]
        exact Nat.blt_eq.mp (List.all_eq_true.mp hsm _ (List.getElem_mem hi))
      · rw [List.getElem?_eq_none (by omega)]; decide
    have h6 : zro g.1 (σ o j) = some (g.1 + fl.getD j 0) := by
      unfold zro
      rw [h3, if_neg (nI_ne0 (by omega) (by omega)), nI_clamp (by omega)]
      rfl
    rw [h6]
theorem conv_P {D : va_G} {g : zG} {σ : zS} {H : Heap} (h : ∀ o, o < 238 → zkok σ o = true) (hP : va_P D zCl (zWl g zkC 238 σ) H) : va_P D zCl (zWl g zkS 238 σ) H := by
  intro k q hq
  obtain ⟨hk, rfl⟩ := zWl_at g zkS σ hq
  exact conv_at hk (h k hk) (hP k _ (zWl_get g zkC σ hk))
