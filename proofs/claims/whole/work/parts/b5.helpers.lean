/-! the law's three helpers */ -/
abbrev hrm : Room := { frames := 400, cells := 1, slots := 6, locals := 20000 }
def HMet (l : Launch) (D : va_G) (g : zG) (y : MethodName) (ws : List Cond) (as : List Value) (σ σ' : zS) (r : Int32) : Prop := Met l y ws hrm (va_Pc as (XP D g σ)) (va_Qi (S := Unit) (fun v _ => v = r) (fun _ t => zEnd D g zkS false 238 σ' t) (zA g)) 1 6 (zA g)
theorem zkS_237 : zkS 237 = (4, 1, []) := rfl
set_option maxRecDepth 100000 in
theorem hl_cat : Cond.classLink "StartedByAYawnLaw" 13 "java/util/NoSuchElementException" ∈ tables_1 := List.mem_of_getElem? (i := 1027) rfl
set_option maxRecDepth 100000
def hy_face : MethodName := ⟨"StartedByAYawnLaw", "face", "(LStartedByAYawn;II[J)I"⟩
def hw_face : List Cond := .codeWith hy_face method_3_code 5 (some .int) [(0, 10, 13, 13)] :: zbig
theorem hl_face : Cond.methodLink "StartedByAYawnLaw" 7 (zY 87) ∈ tables_1 := List.mem_of_getElem? (i := 1028) rfl
section H_face
variable {l : Launch} {D : va_G} {g : zG} {σ σ' : zS}
theorem h_face_ok {v : Int32} {d : Nat} (hd9 : d ≤ 300) (x y : Int32) (hM : ZMet l D g zkS false d 87 [.ref 0, .int x, .int y] 238 σ v 238 σ') : HMet l D g hy_face hw_face [.ref g.1, .int x, .int y, .ref (g.1 + 237)] σ (zup σ' 237 0 v) 0 := by
  refine va_MetW (ws := hw_face) (ws' := zbig) (cc := method_3_code) (maxL := 5) (ret := some .int) (hh := [(0, 10, 13, 13)]) (by decide) rfl ?_
  intro p e s m args below meth c s₁ B hml hP
  obtain ⟨rfl, ⟨hg0, hP, hK, hnst, hao, -⟩, hte⟩ := hP
  have hx := B.exec
  have hb := B.bytes
  have hr := B.returns
  have hts0 := atoms_spec (ws := hw_face) B.pre
  have hts : ∀ w ∈ zbig, w.before #[.ref g.1, .int x, .int y, .ref (g.1 + 237)] s = true := fun w hw => hts0 w (List.mem_cons_of_mem _ hw)
  have hown : s.vm.findClass "StartedByAYawnLaw" = some m.cls := findClass_of_methodNamed B.named
  have hlocks := B.notSynchronized
  have hle := lv_entry ([.ref g.1, .int x, .int y, .ref (g.1 + 237)]) (n := 5) (Nat.le_of_ble_eq_true rfl)
  rw [show (#[Value.ref g.1, .int x, .int y, .ref (g.1 + 237)] : Array Value) = ([Value.ref g.1, .int x, .int y, .ref (g.1 + 237)] : List Value).toArray from rfl, lg_entry_eq]
  generalize (lg_sl ([.ref g.1, .int x, .int y, .ref (g.1 + 237)]) ++ List.replicate (5 - (lg_sl ([.ref g.1, .int x, .int y, .ref (g.1 + 237)])).length) Slot.unset).toArray = ls at hle ⊢
  have hle : lv_has ls 5 [(0, .ref g.1), (1, .int x), (2, .int y), (3, .ref (g.1 + 237))] := hle
  refine lv_aload_n hx hb (show decode method_3_code 0 = .ok (.aload_n 3, 1) by decide +kernel) rfl (lv_at hle 3 rfl) ?_
  refine lv_iconst (v := 0) hx hb (show decode method_3_code 1 = .ok (.iconst 0, 1) by decide +kernel) (by decide) ?_
  refine lv_aload_n hx hb (show decode method_3_code 2 = .ok (.aload_n 0, 1) by decide +kernel) rfl (lv_at hle 0 rfl) ?_
  refine lv_iload_n hx hb (show decode method_3_code 3 = .ok (.iload_n 1, 1) by decide +kernel) rfl (lv_at hle 1 rfl) ?_
  refine lv_iload_n hx hb (show decode method_3_code 4 = .ok (.iload_n 2, 1) by decide +kernel) rfl (lv_at hle 2 rfl) ?_
  refine gen_call (g := g) (D := D) (σ := σ) (σ' := σ') (n := 2) (o := 0) (d := d) (As := [.int x, .int y]) (rest := [.int 0, .ref (g.1 + 237)]) hx hb hml hown hts hK hnst hao hg0 ⟨hP, va_S.rf⟩ hle.1 (show decode method_3_code 5 = .ok (.invokevirtual 7, 3) by decide +kernel) (a := 87) (by decide) (by decide +kernel) (hts _ (zbig_t hl_face rfl)) (by decide) rfl (by decide +kernel) (by decide +kernel) rfl (fun w hw => by simp only [List.mem_cons, List.not_mem_nil, or_false] at hw; rcases hw with rfl | rfl <;> exact ⟨_, rfl⟩) (by show d + 2 ≤ 400; omega) (by show 40 + 40 * (d + 1) ≤ 20000; omega) (by decide +kernel) hM (Nat.le_of_ble_eq_true rfl) (fun H1 locs1 h1 => ?_) (by decide) (by decide)
  refine lv_i2l (v := v.toInt64) hx hb (show decode method_3_code 8 = .ok (.i2l, 1) by decide +kernel) rfl ?_
  have he : (zWl g zkS 238 σ')[237]? = some (g.1 + 237, .inl (g.2.2.2.2.1, 1, .inr (.inl (fun j => (σ' 237 j).toInt64)))) := by
    rw [zWl_get g zkS σ' (by decide)]
    rfl
  refine va_last hx hb hK h1.1 (zWl_D g zkS 238 σ') h1.2 237 3 he rfl (i := 0) (zin_vp (by decide)) (show decode method_3_code 9 = .ok (.lastore, 1) by decide +kernel) (fun H2 locs2 hP2 _ hS2 => ?_)
  rw [zWl_set g zkS σ' (by decide) (upd (σ' 237) 0 v) (by
    simp only [zcell, zkS_237, zput_same]
    congr 5
    funext j
    unfold vp_updL upd
    by_cases hj : j = 0
    · subst hj; rfl
    · rw [if_neg hj]
      exact if_neg hj)] at hP2
  refine lv_goto (tgt := 17) hx hb (show decode method_3_code 10 = .ok (.goto 7, 3) by decide +kernel) (by decide) ?_
  refine lv_iconst (v := 0) hx hb (show decode method_3_code 17 = .ok (.iconst 0, 1) by decide +kernel) (by decide) ?_
  refine W.widen (k := 1) (n := 6) (by omega) (by omega) ?_
  exact W.iret (v := 0) hx hb hr (fun t ht hW => ⟨⟨0, (), rfl, rfl, ⟨by rw [ht]; exact hP2, fun q => by cases q⟩⟩, hS2.F ht⟩) hS2.2.2 (show decode method_3_code 18 = .ok (.ireturn, 1) by decide +kernel)
theorem h_face_thr (x y : Int32) (hM : XMet l D g 87 [.ref g.1, .int x, .int y] σ) : HMet l D g hy_face hw_face [.ref g.1, .int x, .int y, .ref (g.1 + 237)] σ σ 1 := by
  refine va_MetW (ws := hw_face) (ws' := zbig) (cc := method_3_code) (maxL := 5) (ret := some .int) (hh := [(0, 10, 13, 13)]) (by decide) rfl ?_
  intro p e s m args below meth c s₁ B hml hP
  obtain ⟨rfl, ⟨hg0, hP, hK, hnst, hao, hal⟩, hte⟩ := hP
  have hx := B.exec
  have hb := B.bytes
  have hr := B.returns
  have hts0 := atoms_spec (ws := hw_face) B.pre
  have hts : ∀ w ∈ zbig, w.before #[.ref g.1, .int x, .int y, .ref (g.1 + 237)] s = true := fun w hw => hts0 w (List.mem_cons_of_mem _ hw)
  have htab := vx_table (x := hy_face) B (hts0 _ List.mem_cons_self)
  have hown : s.vm.findClass "StartedByAYawnLaw" = some m.cls := findClass_of_methodNamed B.named
  have hlocks := B.notSynchronized
  have hle := lv_entry ([.ref g.1, .int x, .int y, .ref (g.1 + 237)]) (n := 5) (Nat.le_of_ble_eq_true rfl)
  rw [show (#[Value.ref g.1, .int x, .int y, .ref (g.1 + 237)] : Array Value) = ([Value.ref g.1, .int x, .int y, .ref (g.1 + 237)] : List Value).toArray from rfl, lg_entry_eq]
  generalize (lg_sl ([.ref g.1, .int x, .int y, .ref (g.1 + 237)]) ++ List.replicate (5 - (lg_sl ([.ref g.1, .int x, .int y, .ref (g.1 + 237)])).length) Slot.unset).toArray = ls at hle ⊢
  have hle : lv_has ls 5 [(0, .ref g.1), (1, .int x), (2, .int y), (3, .ref (g.1 + 237))] := hle
  refine lv_aload_n hx hb (show decode method_3_code 0 = .ok (.aload_n 3, 1) by decide +kernel) rfl (lv_at hle 3 rfl) ?_
  refine lv_iconst (v := 0) hx hb (show decode method_3_code 1 = .ok (.iconst 0, 1) by decide +kernel) (by decide) ?_
  refine lv_aload_n hx hb (show decode method_3_code 2 = .ok (.aload_n 0, 1) by decide +kernel) rfl (lv_at hle 0 rfl) ?_
  refine lv_iload_n hx hb (show decode method_3_code 3 = .ok (.iload_n 1, 1) by decide +kernel) rfl (lv_at hle 1 rfl) ?_
  refine lv_iload_n hx hb (show decode method_3_code 4 = .ok (.iload_n 2, 1) by decide +kernel) rfl (lv_at hle 2 rfl) ?_
  obtain ⟨-, -, -, -, hcl⟩ := zcls (show (11 : Nat) < 13 by decide)
  obtain ⟨f0, z0⟩ := zkS_0
  have he : (zWl g zkS 238 σ)[0]? = some (g.1 + 0, .inr (11, zfs g.1 σ 0 f0)) := by
    rw [zWl_get g zkS σ (by decide)]
    simp only [zcell, z0]
  have hrecv := va_recv hK hP hcl he
  have hp : PreV s s.heap "StartedByAYawn" g.1 (va_Pc [.ref g.1, .int x, .int y] (XP D g σ)) [.int x, .int y] := ⟨XP.blind, hrecv, fun U hU hW => ⟨rfl, zs_pre hP hK hnst hao hal hg0 U hU hW, hte.warm hW hU va_S.rf⟩⟩
  have hcw : CallW (s := s) hrm #[.ref g.1, .int x, .int y, .ref (g.1 + 237)] "StartedByAYawnLaw" "StartedByAYawn" 7 (zY 87) (zB 87) (zMi 87).2.1 (zMi 87).2.2 (zws 87) xrm 1 6 2 := ⟨⟨rfl, rfl, by decide, by decide +kernel, pay_in hts (zs_good 87 (by decide)), List.mem_cons_self, hts _ (zbig_t (zMc_all 87 (List.mem_range.mpr (by decide))) rfl), zs_init hts (by decide), by decide, zs_params (by decide +kernel), hts _ (zbig_t hl_face rfl)⟩, hts _ (zbig_t (zVic_all 87 (by decide +kernel)) rfl), hts _ (zbig_l (zVis_all 87 (by decide +kernel)) rfl)⟩
  have hrun := vx_runV (p := p) (l := l) (e := e) (R := hrm) (s := s) (m := m) (below := below) (meth := meth) (c := c) (H := s.heap) (locs := []) (cells := 0) (slots := 0) (g := F0 m 5 ls ([.int y, .int x] ++ Value.ref g.1 :: [.int 0, .ref (g.1 + 237)])) (rest := [.int 0, .ref (g.1 + 237)]) (As := [.int x, .int y]) (nL := 5) (own := "StartedByAYawnLaw") (cc := method_3_code) (Ts := zbig) ⟨hx, hb, hml, hown, hts⟩ hM hcw hp rfl rfl hle.1 rfl (lv_room (Nat.le_of_ble_eq_true rfl)) (show decode method_3_code 5 = .ok (.invokevirtual 7, 3) by decide +kernel) ⟨by decide, by decide⟩
  refine vx_calli hrun va_S.rf (fun q _ h => h) (fun q h => h) (fun q _ h => h) (fun E ce q9 u t H1 locs1 ht hvm _ hB hz1 hk1 hS1 hq1 hq2 hq3 => ?_) (fun r u t H1 locs1 ht hvm hf _ _ _ _ => hf.elim)
  obtain ⟨rfl, hP1⟩ := hB
  rw [ht] at hP1
  refine vx_catch (name := nsE) hown [] { startPc := 0, endPc := 10, handlerPc := 13, catchType := 13 } [] (htab.trans rfl) (fun z hz => absurd hz List.not_mem_nil) (by decide) (by decide) (hts _ (zbig_t hl_cat rfl)) (va_Nw.use rfl (hte.2.2.2.2.2 _ (by rw [nsBad_eq]; simp))) hq1 hq2 hq3 ?_
  refine lv_astore (lv' := [(4, .ref q9), (0, .ref g.1), (1, .int x), (2, .int y), (3, .ref (g.1 + 237))]) hx hb (show decode method_3_code 13 = .ok (.astore 4, 2) by decide +kernel) hle (by decide) rfl (fun ls hle => ?_)
  refine lv_iconst (v := 1) hx hb (show decode method_3_code 15 = .ok (.iconst 1, 1) by decide +kernel) (by decide) ?_
  exact W.iret (v := 1) hx hb hr (fun t ht hW => ⟨⟨1, (), rfl, rfl, ⟨by rw [ht]; exact hP1, fun q => by cases q⟩⟩, hS1.F ht⟩) hS1.2.2 (show decode method_3_code 16 = .ok (.ireturn, 1) by decide +kernel)
end H_face
def hy_book : MethodName := ⟨"StartedByAYawnLaw", "book", "(LStartedByAYawn;II[J)I"⟩
def hw_book : List Cond := .codeWith hy_book method_4_code 5 (some .int) [(0, 10, 13, 13)] :: zbig
theorem hl_book : Cond.methodLink "StartedByAYawnLaw" 15 (zY 98) ∈ tables_1 := List.mem_of_getElem? (i := 1101) rfl
section H_book
variable {l : Launch} {D : va_G} {g : zG} {σ σ' : zS}
theorem h_book_ok {v : Int32} {d : Nat} (hd9 : d ≤ 300) (x y : Int32) (hM : ZMet l D g zkS false d 98 [.ref 0, .int x, .int y] 238 σ v 238 σ') : HMet l D g hy_book hw_book [.ref g.1, .int x, .int y, .ref (g.1 + 237)] σ (zup σ' 237 0 v) 0 := by
  refine va_MetW (ws := hw_book) (ws' := zbig) (cc := method_4_code) (maxL := 5) (ret := some .int) (hh := [(0, 10, 13, 13)]) (by decide) rfl ?_
  intro p e s m args below meth c s₁ B hml hP
  obtain ⟨rfl, ⟨hg0, hP, hK, hnst, hao, -⟩, hte⟩ := hP
  have hx := B.exec
  have hb := B.bytes
  have hr := B.returns
  have hts0 := atoms_spec (ws := hw_book) B.pre
  have hts : ∀ w ∈ zbig, w.before #[.ref g.1, .int x, .int y, .ref (g.1 + 237)] s = true := fun w hw => hts0 w (List.mem_cons_of_mem _ hw)
  have hown : s.vm.findClass "StartedByAYawnLaw" = some m.cls := findClass_of_methodNamed B.named
  have hlocks := B.notSynchronized
  have hle := lv_entry ([.ref g.1, .int x, .int y, .ref (g.1 + 237)]) (n := 5) (Nat.le_of_ble_eq_true rfl)
  rw [show (#[Value.ref g.1, .int x, .int y, .ref (g.1 + 237)] : Array Value) = ([Value.ref g.1, .int x, .int y, .ref (g.1 + 237)] : List Value).toArray from rfl, lg_entry_eq]
  generalize (lg_sl ([.ref g.1, .int x, .int y, .ref (g.1 + 237)]) ++ List.replicate (5 - (lg_sl ([.ref g.1, .int x, .int y, .ref (g.1 + 237)])).length) Slot.unset).toArray = ls at hle ⊢
  have hle : lv_has ls 5 [(0, .ref g.1), (1, .int x), (2, .int y), (3, .ref (g.1 + 237))] := hle
  refine lv_aload_n hx hb (show decode method_4_code 0 = .ok (.aload_n 3, 1) by decide +kernel) rfl (lv_at hle 3 rfl) ?_
  refine lv_iconst (v := 0) hx hb (show decode method_4_code 1 = .ok (.iconst 0, 1) by decide +kernel) (by decide) ?_
  refine lv_aload_n hx hb (show decode method_4_code 2 = .ok (.aload_n 0, 1) by decide +kernel) rfl (lv_at hle 0 rfl) ?_
  refine lv_iload_n hx hb (show decode method_4_code 3 = .ok (.iload_n 1, 1) by decide +kernel) rfl (lv_at hle 1 rfl) ?_
  refine lv_iload_n hx hb (show decode method_4_code 4 = .ok (.iload_n 2, 1) by decide +kernel) rfl (lv_at hle 2 rfl) ?_
  refine gen_call (g := g) (D := D) (σ := σ) (σ' := σ') (n := 2) (o := 0) (d := d) (As := [.int x, .int y]) (rest := [.int 0, .ref (g.1 + 237)]) hx hb hml hown hts hK hnst hao hg0 ⟨hP, va_S.rf⟩ hle.1 (show decode method_4_code 5 = .ok (.invokevirtual 15, 3) by decide +kernel) (a := 98) (by decide) (by decide +kernel) (hts _ (zbig_t hl_book rfl)) (by decide) rfl (by decide +kernel) (by decide +kernel) rfl (fun w hw => by simp only [List.mem_cons, List.not_mem_nil, or_false] at hw; rcases hw with rfl | rfl <;> exact ⟨_, rfl⟩) (by show d + 2 ≤ 400; omega) (by show 40 + 40 * (d + 1) ≤ 20000; omega) (by decide +kernel) hM (Nat.le_of_ble_eq_true rfl) (fun H1 locs1 h1 => ?_) (by decide) (by decide)
  refine lv_i2l (v := v.toInt64) hx hb (show decode method_4_code 8 = .ok (.i2l, 1) by decide +kernel) rfl ?_
  have he : (zWl g zkS 238 σ')[237]? = some (g.1 + 237, .inl (g.2.2.2.2.1, 1, .inr (.inl (fun j => (σ' 237 j).toInt64)))) := by
    rw [zWl_get g zkS σ' (by decide)]
    rfl
  refine va_last hx hb hK h1.1 (zWl_D g zkS 238 σ') h1.2 237 3 he rfl (i := 0) (zin_vp (by decide)) (show decode method_4_code 9 = .ok (.lastore, 1) by decide +kernel) (fun H2 locs2 hP2 _ hS2 => ?_)
  rw [zWl_set g zkS σ' (by decide) (upd (σ' 237) 0 v) (by
    simp only [zcell, zkS_237, zput_same]
    congr 5
    funext j
    unfold vp_updL upd
    by_cases hj : j = 0
    · subst hj; rfl
    · rw [if_neg hj]
      exact if_neg hj)] at hP2
  refine lv_goto (tgt := 17) hx hb (show decode method_4_code 10 = .ok (.goto 7, 3) by decide +kernel) (by decide) ?_
  refine lv_iconst (v := 0) hx hb (show decode method_4_code 17 = .ok (.iconst 0, 1) by decide +kernel) (by decide) ?_
  refine W.widen (k := 1) (n := 6) (by omega) (by omega) ?_
  exact W.iret (v := 0) hx hb hr (fun t ht hW => ⟨⟨0, (), rfl, rfl, ⟨by rw [ht]; exact hP2, fun q => by cases q⟩⟩, hS2.F ht⟩) hS2.2.2 (show decode method_4_code 18 = .ok (.ireturn, 1) by decide +kernel)
theorem h_book_thr (x y : Int32) (hM : XMet l D g 98 [.ref g.1, .int x, .int y] σ) : HMet l D g hy_book hw_book [.ref g.1, .int x, .int y, .ref (g.1 + 237)] σ σ 1 := by
  refine va_MetW (ws := hw_book) (ws' := zbig) (cc := method_4_code) (maxL := 5) (ret := some .int) (hh := [(0, 10, 13, 13)]) (by decide) rfl ?_
  intro p e s m args below meth c s₁ B hml hP
  obtain ⟨rfl, ⟨hg0, hP, hK, hnst, hao, hal⟩, hte⟩ := hP
  have hx := B.exec
  have hb := B.bytes
  have hr := B.returns
  have hts0 := atoms_spec (ws := hw_book) B.pre
  have hts : ∀ w ∈ zbig, w.before #[.ref g.1, .int x, .int y, .ref (g.1 + 237)] s = true := fun w hw => hts0 w (List.mem_cons_of_mem _ hw)
  have htab := vx_table (x := hy_book) B (hts0 _ List.mem_cons_self)
  have hown : s.vm.findClass "StartedByAYawnLaw" = some m.cls := findClass_of_methodNamed B.named
  have hlocks := B.notSynchronized
  have hle := lv_entry ([.ref g.1, .int x, .int y, .ref (g.1 + 237)]) (n := 5) (Nat.le_of_ble_eq_true rfl)
  rw [show (#[Value.ref g.1, .int x, .int y, .ref (g.1 + 237)] : Array Value) = ([Value.ref g.1, .int x, .int y, .ref (g.1 + 237)] : List Value).toArray from rfl, lg_entry_eq]
  generalize (lg_sl ([.ref g.1, .int x, .int y, .ref (g.1 + 237)]) ++ List.replicate (5 - (lg_sl ([.ref g.1, .int x, .int y, .ref (g.1 + 237)])).length) Slot.unset).toArray = ls at hle ⊢
  have hle : lv_has ls 5 [(0, .ref g.1), (1, .int x), (2, .int y), (3, .ref (g.1 + 237))] := hle
  refine lv_aload_n hx hb (show decode method_4_code 0 = .ok (.aload_n 3, 1) by decide +kernel) rfl (lv_at hle 3 rfl) ?_
  refine lv_iconst (v := 0) hx hb (show decode method_4_code 1 = .ok (.iconst 0, 1) by decide +kernel) (by decide) ?_
  refine lv_aload_n hx hb (show decode method_4_code 2 = .ok (.aload_n 0, 1) by decide +kernel) rfl (lv_at hle 0 rfl) ?_
  refine lv_iload_n hx hb (show decode method_4_code 3 = .ok (.iload_n 1, 1) by decide +kernel) rfl (lv_at hle 1 rfl) ?_
  refine lv_iload_n hx hb (show decode method_4_code 4 = .ok (.iload_n 2, 1) by decide +kernel) rfl (lv_at hle 2 rfl) ?_
  obtain ⟨-, -, -, -, hcl⟩ := zcls (show (11 : Nat) < 13 by decide)
  obtain ⟨f0, z0⟩ := zkS_0
  have he : (zWl g zkS 238 σ)[0]? = some (g.1 + 0, .inr (11, zfs g.1 σ 0 f0)) := by
    rw [zWl_get g zkS σ (by decide)]
    simp only [zcell, z0]
  have hrecv := va_recv hK hP hcl he
  have hp : PreV s s.heap "StartedByAYawn" g.1 (va_Pc [.ref g.1, .int x, .int y] (XP D g σ)) [.int x, .int y] := ⟨XP.blind, hrecv, fun U hU hW => ⟨rfl, zs_pre hP hK hnst hao hal hg0 U hU hW, hte.warm hW hU va_S.rf⟩⟩
  have hcw : CallW (s := s) hrm #[.ref g.1, .int x, .int y, .ref (g.1 + 237)] "StartedByAYawnLaw" "StartedByAYawn" 15 (zY 98) (zB 98) (zMi 98).2.1 (zMi 98).2.2 (zws 98) xrm 1 6 2 := ⟨⟨rfl, rfl, by decide, by decide +kernel, pay_in hts (zs_good 98 (by decide)), List.mem_cons_self, hts _ (zbig_t (zMc_all 98 (List.mem_range.mpr (by decide))) rfl), zs_init hts (by decide), by decide, zs_params (by decide +kernel), hts _ (zbig_t hl_book rfl)⟩, hts _ (zbig_t (zVic_all 98 (by decide +kernel)) rfl), hts _ (zbig_l (zVis_all 98 (by decide +kernel)) rfl)⟩
  have hrun := vx_runV (p := p) (l := l) (e := e) (R := hrm) (s := s) (m := m) (below := below) (meth := meth) (c := c) (H := s.heap) (locs := []) (cells := 0) (slots := 0) (g := F0 m 5 ls ([.int y, .int x] ++ Value.ref g.1 :: [.int 0, .ref (g.1 + 237)])) (rest := [.int 0, .ref (g.1 + 237)]) (As := [.int x, .int y]) (nL := 5) (own := "StartedByAYawnLaw") (cc := method_4_code) (Ts := zbig) ⟨hx, hb, hml, hown, hts⟩ hM hcw hp rfl rfl hle.1 rfl (lv_room (Nat.le_of_ble_eq_true rfl)) (show decode method_4_code 5 = .ok (.invokevirtual 15, 3) by decide +kernel) ⟨by decide, by decide⟩
  refine vx_calli hrun va_S.rf (fun q _ h => h) (fun q h => h) (fun q _ h => h) (fun E ce q9 u t H1 locs1 ht hvm _ hB hz1 hk1 hS1 hq1 hq2 hq3 => ?_) (fun r u t H1 locs1 ht hvm hf _ _ _ _ => hf.elim)
  obtain ⟨rfl, hP1⟩ := hB
  rw [ht] at hP1
  refine vx_catch (name := nsE) hown [] { startPc := 0, endPc := 10, handlerPc := 13, catchType := 13 } [] (htab.trans rfl) (fun z hz => absurd hz List.not_mem_nil) (by decide) (by decide) (hts _ (zbig_t hl_cat rfl)) (va_Nw.use rfl (hte.2.2.2.2.2 _ (by rw [nsBad_eq]; simp))) hq1 hq2 hq3 ?_
  refine lv_astore (lv' := [(4, .ref q9), (0, .ref g.1), (1, .int x), (2, .int y), (3, .ref (g.1 + 237))]) hx hb (show decode method_4_code 13 = .ok (.astore 4, 2) by decide +kernel) hle (by decide) rfl (fun ls hle => ?_)
  refine lv_iconst (v := 1) hx hb (show decode method_4_code 15 = .ok (.iconst 1, 1) by decide +kernel) (by decide) ?_
  exact W.iret (v := 1) hx hb hr (fun t ht hW => ⟨⟨1, (), rfl, rfl, ⟨by rw [ht]; exact hP1, fun q => by cases q⟩⟩, hS1.F ht⟩) hS1.2.2 (show decode method_4_code 16 = .ok (.ireturn, 1) by decide +kernel)
end H_book
def hy_row : MethodName := ⟨"StartedByAYawnLaw", "row", "(LStartedByAYawn;I[J)I"⟩
def hw_row : List Cond := .codeWith hy_row method_5_code 4 (some .int) [(0, 9, 12, 13)] :: zbig
theorem hl_row : Cond.methodLink "StartedByAYawnLaw" 18 (zY 130) ∈ tables_1 := List.mem_of_getElem? (i := 1110) rfl
section H_row
variable {l : Launch} {D : va_G} {g : zG} {σ σ' : zS}
theorem h_row_ok {v : Int32} {d : Nat} (hd9 : d ≤ 300) (x : Int32) (hM : ZMet l D g zkS false d 130 [.ref 0, .int x] 238 σ v 238 σ') : HMet l D g hy_row hw_row [.ref g.1, .int x, .ref (g.1 + 237)] σ (zup σ' 237 0 v) 0 := by
  refine va_MetW (ws := hw_row) (ws' := zbig) (cc := method_5_code) (maxL := 4) (ret := some .int) (hh := [(0, 9, 12, 13)]) (by decide) rfl ?_
  intro p e s m args below meth c s₁ B hml hP
  obtain ⟨rfl, ⟨hg0, hP, hK, hnst, hao, -⟩, hte⟩ := hP
  have hx := B.exec
  have hb := B.bytes
  have hr := B.returns
  have hts0 := atoms_spec (ws := hw_row) B.pre
  have hts : ∀ w ∈ zbig, w.before #[.ref g.1, .int x, .ref (g.1 + 237)] s = true := fun w hw => hts0 w (List.mem_cons_of_mem _ hw)
  have hown : s.vm.findClass "StartedByAYawnLaw" = some m.cls := findClass_of_methodNamed B.named
  have hlocks := B.notSynchronized
  have hle := lv_entry ([.ref g.1, .int x, .ref (g.1 + 237)]) (n := 4) (Nat.le_of_ble_eq_true rfl)
  rw [show (#[Value.ref g.1, .int x, .ref (g.1 + 237)] : Array Value) = ([Value.ref g.1, .int x, .ref (g.1 + 237)] : List Value).toArray from rfl, lg_entry_eq]
  generalize (lg_sl ([.ref g.1, .int x, .ref (g.1 + 237)]) ++ List.replicate (4 - (lg_sl ([.ref g.1, .int x, .ref (g.1 + 237)])).length) Slot.unset).toArray = ls at hle ⊢
  have hle : lv_has ls 4 [(0, .ref g.1), (1, .int x), (2, .ref (g.1 + 237))] := hle
  refine lv_aload_n hx hb (show decode method_5_code 0 = .ok (.aload_n 2, 1) by decide +kernel) rfl (lv_at hle 2 rfl) ?_
  refine lv_iconst (v := 0) hx hb (show decode method_5_code 1 = .ok (.iconst 0, 1) by decide +kernel) (by decide) ?_
  refine lv_aload_n hx hb (show decode method_5_code 2 = .ok (.aload_n 0, 1) by decide +kernel) rfl (lv_at hle 0 rfl) ?_
  refine lv_iload_n hx hb (show decode method_5_code 3 = .ok (.iload_n 1, 1) by decide +kernel) rfl (lv_at hle 1 rfl) ?_
  refine gen_call (g := g) (D := D) (σ := σ) (σ' := σ') (n := 1) (o := 0) (d := d) (As := [.int x]) (rest := [.int 0, .ref (g.1 + 237)]) hx hb hml hown hts hK hnst hao hg0 ⟨hP, va_S.rf⟩ hle.1 (show decode method_5_code 4 = .ok (.invokevirtual 18, 3) by decide +kernel) (a := 130) (by decide) (by decide +kernel) (hts _ (zbig_t hl_row rfl)) (by decide) rfl (by decide +kernel) (by decide +kernel) rfl (fun w hw => by simp only [List.mem_cons, List.not_mem_nil, or_false] at hw; subst hw; exact ⟨_, rfl⟩) (by show d + 2 ≤ 400; omega) (by show 40 + 40 * (d + 1) ≤ 20000; omega) (by decide +kernel) hM (Nat.le_of_ble_eq_true rfl) (fun H1 locs1 h1 => ?_) (by decide) (by decide)
  refine lv_i2l (v := v.toInt64) hx hb (show decode method_5_code 7 = .ok (.i2l, 1) by decide +kernel) rfl ?_
  have he : (zWl g zkS 238 σ')[237]? = some (g.1 + 237, .inl (g.2.2.2.2.1, 1, .inr (.inl (fun j => (σ' 237 j).toInt64)))) := by
    rw [zWl_get g zkS σ' (by decide)]
    rfl
  refine va_last hx hb hK h1.1 (zWl_D g zkS 238 σ') h1.2 237 3 he rfl (i := 0) (zin_vp (by decide)) (show decode method_5_code 8 = .ok (.lastore, 1) by decide +kernel) (fun H2 locs2 hP2 _ hS2 => ?_)
  rw [zWl_set g zkS σ' (by decide) (upd (σ' 237) 0 v) (by
    simp only [zcell, zkS_237, zput_same]
    congr 5
    funext j
    unfold vp_updL upd
    by_cases hj : j = 0
    · subst hj; rfl
    · rw [if_neg hj]
      exact if_neg hj)] at hP2
  refine lv_goto (tgt := 15) hx hb (show decode method_5_code 9 = .ok (.goto 6, 3) by decide +kernel) (by decide) ?_
  refine lv_iconst (v := 0) hx hb (show decode method_5_code 15 = .ok (.iconst 0, 1) by decide +kernel) (by decide) ?_
  refine W.widen (k := 1) (n := 6) (by omega) (by omega) ?_
  exact W.iret (v := 0) hx hb hr (fun t ht hW => ⟨⟨0, (), rfl, rfl, ⟨by rw [ht]; exact hP2, fun q => by cases q⟩⟩, hS2.F ht⟩) hS2.2.2 (show decode method_5_code 16 = .ok (.ireturn, 1) by decide +kernel)
theorem h_row_thr (x : Int32) (hM : XMet l D g 130 [.ref g.1, .int x] σ) : HMet l D g hy_row hw_row [.ref g.1, .int x, .ref (g.1 + 237)] σ σ 1 := by
  refine va_MetW (ws := hw_row) (ws' := zbig) (cc := method_5_code) (maxL := 4) (ret := some .int) (hh := [(0, 9, 12, 13)]) (by decide) rfl ?_
  intro p e s m args below meth c s₁ B hml hP
  obtain ⟨rfl, ⟨hg0, hP, hK, hnst, hao, hal⟩, hte⟩ := hP
  have hx := B.exec
  have hb := B.bytes
  have hr := B.returns
  have hts0 := atoms_spec (ws := hw_row) B.pre
  have hts : ∀ w ∈ zbig, w.before #[.ref g.1, .int x, .ref (g.1 + 237)] s = true := fun w hw => hts0 w (List.mem_cons_of_mem _ hw)
  have htab := vx_table (x := hy_row) B (hts0 _ List.mem_cons_self)
  have hown : s.vm.findClass "StartedByAYawnLaw" = some m.cls := findClass_of_methodNamed B.named
  have hlocks := B.notSynchronized
  have hle := lv_entry ([.ref g.1, .int x, .ref (g.1 + 237)]) (n := 4) (Nat.le_of_ble_eq_true rfl)
  rw [show (#[Value.ref g.1, .int x, .ref (g.1 + 237)] : Array Value) = ([Value.ref g.1, .int x, .ref (g.1 + 237)] : List Value).toArray from rfl, lg_entry_eq]
  generalize (lg_sl ([.ref g.1, .int x, .ref (g.1 + 237)]) ++ List.replicate (4 - (lg_sl ([.ref g.1, .int x, .ref (g.1 + 237)])).length) Slot.unset).toArray = ls at hle ⊢
  have hle : lv_has ls 4 [(0, .ref g.1), (1, .int x), (2, .ref (g.1 + 237))] := hle
  refine lv_aload_n hx hb (show decode method_5_code 0 = .ok (.aload_n 2, 1) by decide +kernel) rfl (lv_at hle 2 rfl) ?_
  refine lv_iconst (v := 0) hx hb (show decode method_5_code 1 = .ok (.iconst 0, 1) by decide +kernel) (by decide) ?_
  refine lv_aload_n hx hb (show decode method_5_code 2 = .ok (.aload_n 0, 1) by decide +kernel) rfl (lv_at hle 0 rfl) ?_
  refine lv_iload_n hx hb (show decode method_5_code 3 = .ok (.iload_n 1, 1) by decide +kernel) rfl (lv_at hle 1 rfl) ?_
  obtain ⟨-, -, -, -, hcl⟩ := zcls (show (11 : Nat) < 13 by decide)
  obtain ⟨f0, z0⟩ := zkS_0
  have he : (zWl g zkS 238 σ)[0]? = some (g.1 + 0, .inr (11, zfs g.1 σ 0 f0)) := by
    rw [zWl_get g zkS σ (by decide)]
    simp only [zcell, z0]
  have hrecv := va_recv hK hP hcl he
  have hp : PreV s s.heap "StartedByAYawn" g.1 (va_Pc [.ref g.1, .int x] (XP D g σ)) [.int x] := ⟨XP.blind, hrecv, fun U hU hW => ⟨rfl, zs_pre hP hK hnst hao hal hg0 U hU hW, hte.warm hW hU va_S.rf⟩⟩
  have hcw : CallW (s := s) hrm #[.ref g.1, .int x, .ref (g.1 + 237)] "StartedByAYawnLaw" "StartedByAYawn" 18 (zY 130) (zB 130) (zMi 130).2.1 (zMi 130).2.2 (zws 130) xrm 1 6 1 := ⟨⟨rfl, rfl, by decide, by decide +kernel, pay_in hts (zs_good 130 (by decide)), List.mem_cons_self, hts _ (zbig_t (zMc_all 130 (List.mem_range.mpr (by decide))) rfl), zs_init hts (by decide), by decide, zs_params (by decide +kernel), hts _ (zbig_t hl_row rfl)⟩, hts _ (zbig_t (zVic_all 130 (by decide +kernel)) rfl), hts _ (zbig_l (zVis_all 130 (by decide +kernel)) rfl)⟩
  have hrun := vx_runV (p := p) (l := l) (e := e) (R := hrm) (s := s) (m := m) (below := below) (meth := meth) (c := c) (H := s.heap) (locs := []) (cells := 0) (slots := 0) (g := F0 m 4 ls ([.int x] ++ Value.ref g.1 :: [.int 0, .ref (g.1 + 237)])) (rest := [.int 0, .ref (g.1 + 237)]) (As := [.int x]) (nL := 4) (own := "StartedByAYawnLaw") (cc := method_5_code) (Ts := zbig) ⟨hx, hb, hml, hown, hts⟩ hM hcw hp rfl rfl hle.1 rfl (lv_room (Nat.le_of_ble_eq_true rfl)) (show decode method_5_code 4 = .ok (.invokevirtual 18, 3) by decide +kernel) ⟨by decide, by decide⟩
  refine vx_calli hrun va_S.rf (fun q _ h => h) (fun q h => h) (fun q _ h => h) (fun E ce q9 u t H1 locs1 ht hvm _ hB hz1 hk1 hS1 hq1 hq2 hq3 => ?_) (fun r u t H1 locs1 ht hvm hf _ _ _ _ => hf.elim)
  obtain ⟨rfl, hP1⟩ := hB
  rw [ht] at hP1
  refine vx_catch (name := nsE) hown [] { startPc := 0, endPc := 9, handlerPc := 12, catchType := 13 } [] (htab.trans rfl) (fun z hz => absurd hz List.not_mem_nil) (by decide) (by decide) (hts _ (zbig_t hl_cat rfl)) (va_Nw.use rfl (hte.2.2.2.2.2 _ (by rw [nsBad_eq]; simp))) hq1 hq2 hq3 ?_
  refine lv_astore_n (lv' := [(3, .ref q9), (0, .ref g.1), (1, .int x), (2, .ref (g.1 + 237))]) hx hb (show decode method_5_code 12 = .ok (.astore_n 3, 1) by decide +kernel) rfl hle (by decide) rfl (fun ls hle => ?_)
  refine lv_iconst (v := 1) hx hb (show decode method_5_code 13 = .ok (.iconst 1, 1) by decide +kernel) (by decide) ?_
  exact W.iret (v := 1) hx hb hr (fun t ht hW => ⟨⟨1, (), rfl, rfl, ⟨by rw [ht]; exact hP1, fun q => by cases q⟩⟩, hS1.F ht⟩) hS1.2.2 (show decode method_5_code 14 = .ok (.ireturn, 1) by decide +kernel)
end H_row
