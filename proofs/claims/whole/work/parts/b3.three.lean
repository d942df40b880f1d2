/-! the three methods, where they throw */ -/
section THREE
variable {l : Launch} {D : va_G} {g : zG} {σ : zS}
theorem x_face (hl : l.stackTraces = false) (x y : Int32) {v : Int32} (hM : ZMet l D g zkS false 0 134 [.ref 0, .int x] 238 σ v 238 σ) (hv : v = 0 ∨ y < 0 ∨ 7 < y) : XMet l D g 87 [.ref g.1, .int x, .int y] σ := by
  refine vx_ofW (ws := zws 87) (ws' := zbig) (cc := zB 87) (maxL := 5) (ret := some .int) (by decide) rfl ?_
  intro p e s m args below meth c s₁ B hml ht hP
  obtain ⟨rfl, ⟨hg0, hP, hK, hnst, hao, -⟩, hte⟩ := hP
  have hx := B.exec
  have hb := B.bytes
  have hts0 := atoms_spec (ws := zws 87) B.pre
  have hts : ∀ w ∈ zbig, w.before #[.ref g.1, .int x, .int y] s = true := fun w hw => hts0 w (List.mem_cons_of_mem _ hw)
  have hown : s.vm.findClass "StartedByAYawn" = some m.cls := findClass_of_methodNamed B.named
  have hlocks := B.notSynchronized
  have hle := lv_entry ([.ref g.1, .int x, .int y]) (n := 5) (Nat.le_of_ble_eq_true rfl)
  rw [show (#[Value.ref g.1, .int x, .int y] : Array Value) = ([Value.ref g.1, .int x, .int y] : List Value).toArray from rfl, lg_entry_eq]
  generalize (lg_sl ([.ref g.1, .int x, .int y]) ++ List.replicate (5 - (lg_sl ([.ref g.1, .int x, .int y])).length) Slot.unset).toArray = ls at hle ⊢
  have hle : lv_has ls 5 [(0, .ref g.1), (1, .int x), (2, .int y)] := hle
  have fin : ∀ H1 locs1, LW D g s σ H1 locs1 → W p l e xrm s m #[.ref g.1, .int x, .int y] below meth c H1 locs1 0 0 (vx_MQ below (XQ g) (XCf D g σ) #[.ref g.1, .int x, .int y] s 1 6 (zA g)) (F0 m 18 ls []) := fun H1 locs1 h1 =>
    ns_end hx hb hl hml hown hts hte h1 hle.1 ht hlocks hte.1 (Or.inl ⟨by decide +kernel, by decide +kernel, by decide +kernel, by decide +kernel, by decide +kernel⟩)
  refine lv_aload_n hx hb (show decode (zB 87) 0 = .ok (.aload_n 0, 1) by decide +kernel) rfl (lv_at hle 0 rfl) ?_
  refine lv_iload_n hx hb (show decode (zB 87) 1 = .ok (.iload_n 1, 1) by decide +kernel) rfl (lv_at hle 1 rfl) ?_
  refine gen_call (g := g) (D := D) (σ := σ) (σ' := σ) (n := 1) (o := 0) (d := 0) (As := [.int x]) (rest := []) hx hb hml hown hts hK hnst hao hg0 ⟨hP, va_S.rf⟩ hle.1 (show decode (zB 87) 2 = .ok (.invokevirtual 145, 3) by decide +kernel) (a := 134) (by decide) (by decide +kernel) (hts _ (zbig_t (zMLc_all (11, 145, 134, 1) (by decide +kernel)) rfl)) (by decide) rfl (by decide +kernel) (by decide +kernel) rfl (fun w hw => ⟨x, List.mem_singleton.mp hw⟩) (by decide) (by decide) (by decide +kernel) hM (by decide) (fun H1 locs1 h1 => ?_) (by decide) (by decide)
  refine lv_if_eq (tgt := 18) hx hb (show decode (zB 87) 5 = .ok (.ifCond .eq 13, 3) by decide +kernel) (by decide) (fun _ => fin _ _ h1) (fun hv0 => ?_)
  refine lv_iload_n hx hb (show decode (zB 87) 8 = .ok (.iload_n 2, 1) by decide +kernel) rfl (lv_at hle 2 rfl) ?_
  refine lv_if_lt (tgt := 18) hx hb (show decode (zB 87) 9 = .ok (.ifCond .lt 9, 3) by decide +kernel) (by decide) (fun _ => fin _ _ h1) (fun hy0 => ?_)
  refine lv_iload_n hx hb (show decode (zB 87) 12 = .ok (.iload_n 2, 1) by decide +kernel) rfl (lv_at hle 2 rfl) ?_
  refine lv_bipush (v := 7) hx hb (show decode (zB 87) 13 = .ok (.bipush 7, 2) by decide +kernel) (by decide) ?_
  refine lv_icmp_le (tgt := 28) hx hb (show decode (zB 87) 15 = .ok (.if_icmp .le 13, 3) by decide +kernel) (by decide) (fun hy7 => ?_) (fun _ => fin _ _ h1)
  rcases hv with q | q | q
  · exact absurd q hv0
  · exact absurd q hy0
  · exact absurd hy7 (Int32.not_le.mpr q)
end THREE
