/-! the law's three cases that may throw */ -/
set_option maxRecDepth 100000 in
theorem tw_face : Cond.methodLink "StartedByAYawnLaw" 48 hy_face ∈ tables_1 ∧ Cond.static hy_face ∈ tables_1 ∧ Cond.codeWith hy_face method_3_code 5 (some .int) [(0, 10, 13, 13)] ∈ tables_1 := ⟨List.mem_of_getElem? (i := 1024) rfl, List.mem_of_getElem? (i := 1025) rfl, List.mem_of_getElem? (i := 1026) rfl⟩
set_option maxRecDepth 100000 in
theorem tw_book : Cond.methodLink "StartedByAYawnLaw" 100 hy_book ∈ tables_1 ∧ Cond.static hy_book ∈ tables_1 ∧ Cond.codeWith hy_book method_4_code 5 (some .int) [(0, 10, 13, 13)] ∈ tables_1 := ⟨List.mem_of_getElem? (i := 1098) rfl, List.mem_of_getElem? (i := 1099) rfl, List.mem_of_getElem? (i := 1100) rfl⟩
set_option maxRecDepth 100000 in
theorem tw_row : Cond.methodLink "StartedByAYawnLaw" 227 hy_row ∈ tables_1 ∧ Cond.static hy_row ∈ tables_1 ∧ Cond.codeWith hy_row method_5_code 4 (some .int) [(0, 9, 12, 13)] ∈ tables_1 := ⟨List.mem_of_getElem? (i := 1107) rfl, List.mem_of_getElem? (i := 1108) rfl, List.mem_of_getElem? (i := 1109) rfl⟩
set_option maxRecDepth 100000 in
theorem tw_ref : Cond.methodLink R_law 53 (zY 200) ∈ tables_1 ∧ Cond.methodLink R_law 102 (zY 225) ∈ tables_1 ∧ Cond.methodLink R_law 230 (zY 273) ∈ tables_1 ∧ Cond.methodLink R_law 54 (zY 170) ∈ tables_1 := ⟨List.mem_of_getElem? (i := 1362) rfl, List.mem_of_getElem? (i := 1482) rfl, List.mem_of_getElem? (i := 1688) rfl, List.mem_of_getElem? (i := 1276) rfl⟩
section LAW3
variable {p : Program} {l : Launch} {e : Env} {s : State} {m : MethodId} {below : List Frame} {meth : Method} {c : Code} {b L : Nat} {xs : Nat → Int32} {D : va_G} {g : zG}
variable {H : Heap} {locs : List Loc} {cells slots pc : Nat} {ls : Array Slot} {st : List Value} {σ : zS}
/-- a helper of the law is called */
-/
theorem law_help (C : LC p s m meth c b L xs D g) (hte : TE g s) (hw : LW D g s σ H locs) (hls : ls.size = 7) {k n maxL : Nat} {y : MethodName} {cc : ByteArray} {hh : List (Nat × Nat × Nat × Nat)} {ws : List Cond} {r : Int32} {σ' : zS} {As : List Value} (hws : ws = Cond.codeWith y cc maxL (some .int) hh :: zbig) (htw : Cond.methodLink R_law k y ∈ tables_1 ∧ Cond.static y ∈ tables_1 ∧ Cond.codeWith y cc maxL (some .int) hh ∈ tables_1) (hy : y.cls = "StartedByAYawnLaw") (hml9 : maxL ≤ 9) (hpr : ∀ sig, parseMethodDescriptor y.desc = some sig → n = sig.parameters.length) (hlen : As.length = n)
    (hM : HMet l D g y ws As σ σ' r) (hd : decode code pc = .ok (.invokestatic k, 3))
    (kk : ∀ H1 locs1, LW D g s σ' H1 locs1 → WW p l e s m b below meth c H1 locs1 (cells + 1) (slots + 6) (pc + 3) ls [.int r]) (hcc : cells + 1 ≤ 601024) (hss : slots + 6 ≤ 7293033) : WW p l e s m b below meth c H locs cells slots pc ls (As.reverse ++ []) := by
  obtain ⟨⟨hx, hb, hr, hml, hown, hts0, hX, hbl, hlocks, hgv⟩, hL, hK, hnst, hao, hg⟩ := C
  obtain ⟨hP, hS⟩ := hw
  have hts : ∀ w ∈ zbig, w.before #[Value.ref b] s = true := fun w hw => hts0 w (List.mem_filter.mp hw).1
  have hgood : ∀ w ∈ ws, w ∈ zbig ∧ ((w.onTables && w.keeps) = true ∨ ∃ ty, w = .arrayClass ty) := by
    intro w hw
    have h1 : w ∈ zbig := by
      rw [hws] at hw
      rcases List.mem_cons.mp hw with q | q
      · rw [q]; exact zbig_t htw.2.2 rfl
      · exact q
    exact ⟨h1, good_of_word (zbig_good h1)⟩
  have hp : PreS s H (va_Pc As (XP D g σ)) As := ⟨XP.blind, fun U hU hW => ⟨rfl, zs_pre hP hK hnst hao (fun q => by cases q) (Nat.le_trans (by rw [hg]; exact Nat.le_refl _) hS.1) U hU hW, hte.warm hW hU hS⟩⟩
  have hcw : vx_CSW room_1 s #[Value.ref b] R_law k y cc maxL (some .int) hh ws hrm 1 6 n := ⟨⟨rfl, rfl, by decide, by show 8 + (maxL + 11) + 20000 ≤ 84000; omega, pay_in hts hgood, by rw [hws]; exact List.mem_cons_self⟩, hts0 _ (lw_of_t htw.2.2), by rw [hy]; exact hts0 _ (lw_of_t (List.mem_of_getElem? (i := 0) rfl)), by rw [hy]; decide, hpr, hts0 _ (lw_of_t htw.1), hts0 _ (lw_of_t htw.2.1)⟩
  have hrun := vx_runSW (p := p) (l := l) (e := e) (R := room_1) (s := s) (m := m) (args := #[Value.ref b]) (below := below) (meth := meth) (c := c) (H := H) (locs := locs) (cells := cells) (slots := slots) (g := F0 m pc ls (As.reverse ++ [])) (rest := []) (nL := 7) (own := R_law) (cc := code) (Ts := lw_tbl) ⟨hx, hb, hml, hown, hts0⟩ hM hcw hp rfl hlen hls rfl (lv_room (by decide)) hd ⟨by show cells + 1 ≤ 601024; omega, by show slots + 6 ≤ 7293033; omega⟩
  refine va_calli hrun hS (fun q _ h => h) (fun q h => h) fun r2 u t H1 locs1 ht _ hv hB _ _ hS1 => ?_
  obtain ⟨hP1, -⟩ := hB
  rw [ht] at hP1
  have hv : r2 = r := hv
  subst hv
  exact kk H1 locs1 ⟨hP1, hS1⟩
end LAW3
