/-! THE LAW'S LOOP -/
theorem and63 (x : Int32) : ∃ k, k < 64 ∧ x &&& 63 = nI k := by
  refine ⟨(x &&& 63).toBitVec.toNat, ?_, ?_⟩
  · have h : (x &&& 63).toBitVec = x.toBitVec &&& 63#32 := rfl
    rw [h, BitVec.toNat_and]
    exact Nat.lt_succ_of_le Nat.and_le_right
  · apply Int32.toBitVec_inj.mp
    show (x &&& 63).toBitVec = BitVec.ofNat 32 _
    simp
def lawO : Array Int := #[209, 234, 259, 272, 285, 298, 366, 415, 476, 501, 538, 563, 600, 613, 638, 651, 664, 732, 757, 770, 795, 820, 845, 882, 907, 920, 945, 970, 1007, 1020, 1057, 1070, 1107, 1132, 1169, 1194, 1243, 1256, 1281, 1306, 1343, 1356, 1369, 1394, 1407, 1444, 1469, 1494, 1519]
set_option maxRecDepth 100000 in
theorem lawSw : decode code 39 = .ok (.tableswitch 1575 0 48 lawO, 209) := by decide +kernel
theorem low5 : ∀ L, L < 5 → ∀ i, i < 5 → i ≤ L → nI L - 5 < nI i := by decide
theorem more5 {L i : Nat} (hL : L ≤ 2560) (hi : i ≤ L) (h : ¬ nI L - 5 < nI i) : i + 5 ≤ L := by
  by_cases h5 : L < 5
  · exact absurd (low5 L h5 i (by omega) hi) h
  · obtain ⟨M, rfl⟩ : ∃ M, L = M + 5 := ⟨L - 5, by omega⟩
    have e : nI (M + 5) - (5 : Int32) = nI M := subL (n := M + 5) (k := 5) (by omega)
    rw [e] at h
    have : ¬ M < i := fun q => h (nI_lt q (by omega))
    omega
section LOOP
variable {p : Program} {l : Launch} {e : Env} {s : State} {m : MethodId} {below : List Frame} {meth : Method} {c : Code} {b L : Nat} {xs : Nat → Int32} {D : va_G} {g : zG}
variable {H : Heap} {locs : List Loc} {cells slots : Nat} {ls : Array Slot} {σ : zS}
theorem law_case (hst : l.stackTraces = false) (C : LC p s m meth c b L xs D g) (hte : TE g s) (hw : LW D g s σ H locs) {i B k : Nat} (hl : LL g b (nI i) ls) (hi : i + 5 ≤ L) (hcc : cells + 1 ≤ 601024) (hss : slots + 6 ≤ 7293033) (hI : Inv B σ) (hB : B < 80000000) (hk : k < 64)
    (kk : ∀ H1 locs1 ls1 σ2 c1 s1, c1 ≤ cells + 1 → s1 ≤ slots + 6 → LW D g s σ2 H1 locs1 → Inv (B + 2000) σ2 → LL g b (nI i) ls1 → WW p l e s m b below meth c H1 locs1 c1 s1 1614 ls1 []) : WW p l e s m b below meth c H locs cells slots 39 ls [.int (nI k)] := by
  have hx := C.1.1
  have hb := C.1.2.1
  have k1 : ∀ H1 locs1 σ2, LW D g s σ2 H1 locs1 → Inv (B + 2000) σ2 → WW p l e s m b below meth c H1 locs1 cells slots 1614 ls [] := fun H1 locs1 σ2 h1 h2 => kk H1 locs1 ls σ2 cells slots (by omega) (by omega) h1 h2 hl
  have k2 : ∀ H1 locs1 ls1 σ2, LW D g s σ2 H1 locs1 → Inv (B + 2000) σ2 → LL g b (nI i) ls1 → WW p l e s m b below meth c H1 locs1 (cells + 1) (slots + 6) 1614 ls1 [] := fun H1 locs1 ls1 σ2 h1 h2 h3 => kk H1 locs1 ls1 σ2 (cells + 1) (slots + 6) (by omega) (by omega) h1 h2 h3
  have inn : ∀ (tgt : Nat) (off : Int), k ≤ 48 → lawO[k]? = some off → ((39 : Nat) : Int) + off = (tgt : Int) → WW p l e s m b below meth c H locs cells slots tgt ls [] → WW p l e s m b below meth c H locs cells slots 39 ls [.int (nI k)] := by
    intro tgt off h48 ho ht kw
    have ei : (nI k).toInt = (k : Int) := nI_toInt (by omega)
    refine lv_tableIn (off := off) (tgt := tgt) hx hb lawSw (by rw [ei]; omega) (by rw [ei]; omega) ?_ ht kw
    rw [ei, Int.sub_zero, Int.toNat_natCast]
    exact ho
  by_cases h48 : k ≤ 48
  · match k, h48, inn with
    | 0, h, inn => exact inn 248 209 h rfl (by decide) (lc_0 C hw hl hi (by omega) (by omega) hI hB k1)
    | 1, h, inn => exact inn 273 234 h rfl (by decide) (lc_1 C hw hl hi (by omega) (by omega) hI hB k1)
    | 2, h, inn => exact inn 298 259 h rfl (by decide) (lc_2 C hw hl hi (by omega) (by omega) hI hB k1)
    | 3, h, inn => exact inn 311 272 h rfl (by decide) (lc_3 C hw hl hi (by omega) (by omega) hI hB k1)
    | 4, h, inn => exact inn 324 285 h rfl (by decide) (lc_4 C hw hl hi (by omega) (by omega) hI hB k1)
    | 5, h, inn => exact inn 337 298 h rfl (by decide) (lc_5 hst C hte hw hl hi hcc hss hI k2)
    | 6, h, inn => exact inn 405 366 h rfl (by decide) (lc_6 C hw hl hi (by omega) (by omega) hI hB k1)
    | 7, h, inn => exact inn 454 415 h rfl (by decide) (lc_7 C hw hl hi (by omega) (by omega) hI hB k1)
    | 8, h, inn => exact inn 515 476 h rfl (by decide) (lc_8 C hw hl hi (by omega) (by omega) hI hB k1)
    | 9, h, inn => exact inn 540 501 h rfl (by decide) (lc_9 C hw hl hi (by omega) (by omega) hI hB k1)
    | 10, h, inn => exact inn 577 538 h rfl (by decide) (lc_10 C hw hl hi (by omega) (by omega) hI hB k1)
    | 11, h, inn => exact inn 602 563 h rfl (by decide) (lc_11 C hw hl hi (by omega) (by omega) hI hB k1)
    | 12, h, inn => exact inn 639 600 h rfl (by decide) (lc_12 C hw hl hi (by omega) (by omega) hI hB k1)
    | 13, h, inn => exact inn 652 613 h rfl (by decide) (lc_13 C hw hl hi (by omega) (by omega) hI hB k1)
    | 14, h, inn => exact inn 677 638 h rfl (by decide) (lc_14 C hw hl hi (by omega) (by omega) hI hB k1)
    | 15, h, inn => exact inn 690 651 h rfl (by decide) (lc_15 C hw hl hi (by omega) (by omega) hI hB k1)
    | 16, h, inn => exact inn 703 664 h rfl (by decide) (lc_16 hst C hte hw hl hi hcc hss hI k2)
    | 17, h, inn => exact inn 771 732 h rfl (by decide) (lc_17 C hw hl hi (by omega) (by omega) hI hB k1)
    | 18, h, inn => exact inn 796 757 h rfl (by decide) (lc_18 C hw hl hi (by omega) (by omega) hI hB k1)
    | 19, h, inn => exact inn 809 770 h rfl (by decide) (lc_19 C hw hl hi (by omega) (by omega) hI hB k1)
    | 20, h, inn => exact inn 834 795 h rfl (by decide) (lc_20 C hw hl hi (by omega) (by omega) hI hB k1)
    | 21, h, inn => exact inn 859 820 h rfl (by decide) (lc_21 C hw hl hi (by omega) (by omega) hI hB k1)
    | 22, h, inn => exact inn 884 845 h rfl (by decide) (lc_22 C hw hl hi (by omega) (by omega) hI hB k1)
    | 23, h, inn => exact inn 921 882 h rfl (by decide) (lc_23 C hw hl hi (by omega) (by omega) hI hB k1)
    | 24, h, inn => exact inn 946 907 h rfl (by decide) (lc_24 C hw hl hi (by omega) (by omega) hI hB k1)
    | 25, h, inn => exact inn 959 920 h rfl (by decide) (lc_25 C hw hl hi (by omega) (by omega) hI hB k1)
    | 26, h, inn => exact inn 984 945 h rfl (by decide) (lc_26 C hw hl hi (by omega) (by omega) hI hB k1)
    | 27, h, inn => exact inn 1009 970 h rfl (by decide) (lc_27 C hw hl hi (by omega) (by omega) hI hB k1)
    | 28, h, inn => exact inn 1046 1007 h rfl (by decide) (lc_28 C hw hl hi (by omega) (by omega) hI hB k1)
    | 29, h, inn => exact inn 1059 1020 h rfl (by decide) (lc_29 C hw hl hi (by omega) (by omega) hI hB k1)
    | 30, h, inn => exact inn 1096 1057 h rfl (by decide) (lc_30 C hw hl hi (by omega) (by omega) hI hB k1)
    | 31, h, inn => exact inn 1109 1070 h rfl (by decide) (lc_31 C hw hl hi (by omega) (by omega) hI hB k1)
    | 32, h, inn => exact inn 1146 1107 h rfl (by decide) (lc_32 C hw hl hi (by omega) (by omega) hI hB k1)
    | 33, h, inn => exact inn 1171 1132 h rfl (by decide) (lc_33 C hw hl hi (by omega) (by omega) hI hB k1)
    | 34, h, inn => exact inn 1208 1169 h rfl (by decide) (lc_34 C hw hl hi (by omega) (by omega) hI hB k1)
    | 35, h, inn => exact inn 1233 1194 h rfl (by decide) (lc_35 C hw hl hi (by omega) (by omega) hI hB k1)
    | 36, h, inn => exact inn 1282 1243 h rfl (by decide) (lc_36 C hw hl hi (by omega) (by omega) hI hB k1)
    | 37, h, inn => exact inn 1295 1256 h rfl (by decide) (lc_37 C hw hl hi (by omega) (by omega) hI hB k1)
    | 38, h, inn => exact inn 1320 1281 h rfl (by decide) (lc_38 C hw hl hi (by omega) (by omega) hI hB k1)
    | 39, h, inn => exact inn 1345 1306 h rfl (by decide) (lc_39 C hw hl hi (by omega) (by omega) hI hB k1)
    | 40, h, inn => exact inn 1382 1343 h rfl (by decide) (lc_40 C hw hl hi (by omega) (by omega) hI hB k1)
    | 41, h, inn => exact inn 1395 1356 h rfl (by decide) (lc_41 C hw hl hi (by omega) (by omega) hI hB k1)
    | 42, h, inn => exact inn 1408 1369 h rfl (by decide) (lc_42 C hw hl hi (by omega) (by omega) hI hB k1)
    | 43, h, inn => exact inn 1433 1394 h rfl (by decide) (lc_43 C hw hl hi (by omega) (by omega) hI hB k1)
    | 44, h, inn => exact inn 1446 1407 h rfl (by decide) (lc_44 C hw hl hi (by omega) (by omega) hI hB k1)
    | 45, h, inn => exact inn 1483 1444 h rfl (by decide) (lc_45 C hw hl hi (by omega) (by omega) hI hB k1)
    | 46, h, inn => exact inn 1508 1469 h rfl (by decide) (lc_46 C hw hl hi (by omega) (by omega) hI hB k1)
    | 47, h, inn => exact inn 1533 1494 h rfl (by decide) (lc_47 C hw hl hi (by omega) (by omega) hI hB k1)
    | 48, h, inn => exact inn 1558 1519 h rfl (by decide) (lc_48 hst C hte hw hl hi hcc hss hI k2)
    | n + 49, h, _ => exact absurd h (by omega)
  · have ei : (nI k).toInt = (k : Int) := nI_toInt (by omega)
    refine lv_tableOut (tgt := 1614) hx hb lawSw (Or.inr (by rw [ei]; omega)) (by decide) ?_
    exact k1 H locs σ hw (Inv.mono hI (by omega))
theorem law_loop (hst : l.stackTraces = false) (C : LC p s m meth c b L xs D g) (hte : TE g s) : ∀ (n i : Nat) (σ : zS) (H : Heap) (locs : List Loc) (ls : Array Slot) (c1 s1 : Nat), i ≤ L → L < i + 5 * n → LW D g s σ H locs → Inv (400 * i) σ → LL g b (nI i) ls → c1 ≤ 1000 + i → s1 ≤ 200000 + 6 * i → WW p l e s m b below meth c H locs c1 s1 23 ls [] := by
  intro n
  induction n with
  | zero => intro i σ H locs ls c1 s1 h1 h2; omega
  | succ n ih =>
    intro i σ H locs ls c1 s1 h1 h2 hw hI hl hc1 hs1
    obtain ⟨hx, hb, hr, hml, hown, hts0, hX, hbl, hlocks, hgv⟩ := id C.1
    have hL := C.2.1
    have hg := C.2.2.2.2.2
    have hbA : ¬ (zA g) b := Nat.not_le.mpr (by rw [hg]; exact hbl)
    refine lv_iload hx hb (show decode code 23 = .ok (.iload 4, 2) by decide +kernel) (lv_at hl 4 rfl) ?_
    refine lv_aload_n hx hb (show decode code 25 = .ok (.aload_n 0, 1) by decide +kernel) rfl (lv_at hl 0 rfl) ?_
    refine va_slen hx hb hX hbl hbA hw.2 (show decode code 26 = .ok (.arraylength, 1) by decide +kernel) ?_
    refine lv_iconst (v := 5) hx hb (show decode code 27 = .ok (.iconst 5, 1) by decide +kernel) (by decide) ?_
    refine lv_isub hx hb (show decode code 28 = .ok (.isub, 1) by decide +kernel) ?_
    refine lv_icmp_gt (tgt := 1620) hx hb (show decode code 29 = .ok (.if_icmp .gt 1591, 3) by decide +kernel) (by decide) (fun _ => ?_) (fun hle => ?_)
    · refine lv_iconst (v := 1) hx hb (show decode code 1620 = .ok (.iconst 1, 1) by decide +kernel) (by decide) ?_
      refine va_forget (fun q hq => by have := hw.2.2.2 q hq; rw [← hg]; exact this) ?_
      refine W.widen (k := 601024) (n := 7293033) (by omega) (by omega) ?_
      exact lw_ret hx hb hr hlocks (show decode code 1621 = .ok (.ireturn, 1) by decide +kernel)
    · have hi : i + 5 ≤ L := more5 hL h1 hle
      refine lv_aload_n hx hb (show decode code 32 = .ok (.aload_n 0, 1) by decide +kernel) rfl (lv_at hl 0 rfl) ?_
      refine lv_iload hx hb (show decode code 33 = .ok (.iload 4, 2) by decide +kernel) (lv_at hl 4 rfl) ?_
      refine va_sld hx hb hX hbl hbA hw.2 (vp_in_nI (by omega) (by omega)) (show decode code 35 = .ok (.iaload, 1) by decide +kernel) ?_
      refine lv_bipush (v := 63) hx hb (show decode code 36 = .ok (.bipush 63, 2) by decide +kernel) (by decide) ?_
      refine lv_iand hx hb (show decode code 38 = .ok (.iand, 1) by decide +kernel) ?_
      obtain ⟨k, hk, ek⟩ := and63 (xs (nI i).toNatClampNeg)
      rw [ek]
      refine law_case hst C hte hw hl hi (by omega) (by omega) hI (by omega) hk (fun H1 locs1 ls1 σ2 c2 s2 hc2 hs2 hw2 hI2 hl2 => ?_)
      refine lv_iinc (v := nI (i + 5)) (lv' := [(4, .int (nI (i + 5))), (0, .ref b), (1, .ref g.1), (2, .ref (g.1 + 214)), (3, .ref (g.1 + 237))]) hx hb (show decode code 1614 = .ok (.iinc 4 5, 3) by decide +kernel) hl2 (k := 4) rfl (nI_add i 5) (by decide) rfl (fun ls3 hl3 => ?_)
      refine lv_goto (tgt := 23) hx hb (show decode code 1617 = .ok (.goto (-1594), 3) by decide +kernel) (by decide) ?_
      exact ih (i + 5) σ2 H1 locs1 ls3 c2 s2 hi (by omega) hw2 (by rw [show 400 * (i + 5) = 400 * i + 2000 by omega]; exact hI2) (lv_sub hl3 [1, 2, 3, 4, 0] rfl) (by omega) (by omega)
end LOOP
