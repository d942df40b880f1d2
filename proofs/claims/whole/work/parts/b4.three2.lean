section THREE2
variable {p : Program} {l : Launch} {e : Env} {R : Room} {s : State} {m : MethodId} {args : Array Value} {below : List Frame} {meth : Method} {c : Code} {D : va_G} {g : zG} {Q : State → Prop}
variable {H : Heap} {locs : List Loc} {cells slots pc : Nat} {ls : Array Slot} {st : List Value} {σ : zS}
theorem gen_get0 {cc : ByteArray} (hx : p.tables.exec = Jvm.exec) (hb : c.code = cc) (hown : s.vm.findClass "StartedByAYawn" = some m.cls) (hts : ∀ w ∈ zbig, w.before args s = true) (hK : va_K D zCl (zTy g) s) (hP : va_P D zCl (zWl g zkS 238 σ) H) {k bI f : Nat} {fl : List Nat} (hl : (11, k, 11, bI) ∈ zFL) (hz : zkS 0 = (0, 11, fl)) (hf : fl[bI]? = some f) (hd : decode cc pc = .ok (.getfield k, 3))
    (kk : W p l e R s m args below meth c H locs cells slots Q (F0 m (pc + 3) ls (zcv g.1 (zFld 0 bI f σ) :: st))) : W p l e R s m args below meth c H locs cells slots Q (F0 m pc ls (.ref (g.1 + 0) :: st)) := by
  have hw := zFLc_all _ hl
  obtain ⟨hcn, hbN, hci⟩ := zFL_ok2 _ hl
  dsimp only at hcn hbN hci
  obtain ⟨ty, hty, hnn, hin, hcl⟩ := zcls hci
  have he : (zWl g zkS 238 σ)[0]? = some (g.1 + 0, .inr (11, zfs g.1 σ 0 fl)) := by
    rw [zWl_get g zkS σ (by decide)]
    simp only [zcell, hz]
  refine va_get (C := (zTf 11).1) (T := (zTf 11).2.1) (N := (zTf 11).2.2) (ref := zCs 11) hx hb hts hin hown hK hP 0 he hcl bI hbN (hts _ (zbig_t hw rfl)) (fun x hx => ?_) (zfs_get _ _ _ hf) hd kk
  have hd2 : ((zTf 11).2.1 bI).1 = zCs 11 := zFd_ok hci hbN
  rw [hd2] at hx
  exact hx
end THREE2
section THREE3
variable {l : Launch} {D : va_G} {g : zG} {σ : zS}
theorem x_book (hl : l.stackTraces = false) (x y : Int32) {v : Int32} (hM : ZMet l D g zkS false 0 13 [.ref 32, .int x] 238 σ v 238 σ) (hv : v = 0 ∨ y < 0 ∨ 4 < y) : XMet l D g 98 [.ref g.1, .int x, .int y] σ := by
  refine vx_ofW (ws := zws 98) (ws' := zbig) (cc := zB 98) (maxL := 4) (ret := some .int) (by decide) rfl ?_
  intro p e s m args below meth c s₁ B hml ht hP
  obtain ⟨rfl, ⟨hg0, hP, hK, hnst, hao, -⟩, hte⟩ := hP
  have hx := B.exec
  have hb := B.bytes
  have hts0 := atoms_spec (ws := zws 98) B.pre
  have hts : ∀ w ∈ zbig, w.before #[.ref g.1, .int x, .int y] s = true := fun w hw => hts0 w (List.mem_cons_of_mem _ hw)
  have hown : s.vm.findClass "StartedByAYawn" = some m.cls := findClass_of_methodNamed B.named
  have hlocks := B.notSynchronized
  have hle := lv_entry ([.ref g.1, .int x, .int y]) (n := 4) (Nat.le_of_ble_eq_true rfl)
  rw [show (#[Value.ref g.1, .int x, .int y] : Array Value) = ([Value.ref g.1, .int x, .int y] : List Value).toArray from rfl, lg_entry_eq]
  generalize (lg_sl ([.ref g.1, .int x, .int y]) ++ List.replicate (4 - (lg_sl ([.ref g.1, .int x, .int y])).length) Slot.unset).toArray = ls at hle ⊢
  have hle : lv_has ls 4 [(0, .ref g.1), (1, .int x), (2, .int y)] := hle
  have fin : ∀ H1 locs1, LW D g s σ H1 locs1 → W p l e xrm s m #[.ref g.1, .int x, .int y] below meth c H1 locs1 0 0 (vx_MQ below (XQ g) (XCf D g σ) #[.ref g.1, .int x, .int y] s 1 6 (zA g)) (F0 m 20 ls []) := fun H1 locs1 h1 =>
    ns_end hx hb hl hml hown hts hte h1 hle.1 ht hlocks hte.2.1 (Or.inr ⟨by decide +kernel, by decide +kernel, by decide +kernel, by decide +kernel, by decide +kernel⟩)
  refine lv_aload_n hx hb (show decode (zB 98) 0 = .ok (.aload_n 0, 1) by decide +kernel) rfl (lv_at hle 0 rfl) ?_
  refine gen_get0 (g := g) (D := D) (σ := σ) (k := 54) (bI := 6) (f := 34) hx hb hown hts hK hP (by decide +kernel) rfl rfl (show decode (zB 98) 1 = .ok (.getfield 54, 3) by decide +kernel) ?_
  refine lv_iload_n hx hb (show decode (zB 98) 4 = .ok (.iload_n 1, 1) by decide +kernel) rfl (lv_at hle 1 rfl) ?_
  refine gen_call (g := g) (D := D) (σ := σ) (σ' := σ) (n := 1) (o := 32) (d := 0) (As := [.int x]) (rest := []) hx hb hml hown hts hK hnst hao hg0 ⟨hP, va_S.rf⟩ hle.1 (show decode (zB 98) 5 = .ok (.invokevirtual 297, 3) by decide +kernel) (a := 13) (by decide) (by decide +kernel) (hts _ (zbig_t (zMLc_all (11, 297, 13, 1) (by decide +kernel)) rfl)) (by decide) rfl (by decide +kernel) (by decide +kernel) rfl (fun w hw => ⟨x, List.mem_singleton.mp hw⟩) (by decide) (by decide) (by decide +kernel) hM (by decide) (fun H1 locs1 h1 => ?_) (by decide) (by decide)
  refine lv_if_eq (tgt := 20) hx hb (show decode (zB 98) 8 = .ok (.ifCond .eq 12, 3) by decide +kernel) (by decide) (fun _ => fin _ _ h1) (fun hv0 => ?_)
  refine lv_iload_n hx hb (show decode (zB 98) 11 = .ok (.iload_n 2, 1) by decide +kernel) rfl (lv_at hle 2 rfl) ?_
  refine lv_if_lt (tgt := 20) hx hb (show decode (zB 98) 12 = .ok (.ifCond .lt 8, 3) by decide +kernel) (by decide) (fun _ => fin _ _ h1) (fun hy0 => ?_)
  refine lv_iload_n hx hb (show decode (zB 98) 15 = .ok (.iload_n 2, 1) by decide +kernel) rfl (lv_at hle 2 rfl) ?_
  refine lv_iconst (v := 4) hx hb (show decode (zB 98) 16 = .ok (.iconst 4, 1) by decide +kernel) (by decide) ?_
  refine lv_icmp_le (tgt := 31) hx hb (show decode (zB 98) 17 = .ok (.if_icmp .le 14, 3) by decide +kernel) (by decide) (fun hy7 => ?_) (fun _ => fin _ _ h1)
  rcases hv with q | q | q
  · exact absurd q hv0
  · exact absurd q hy0
  · exact absurd hy7 (Int32.not_le.mpr q)
theorem x_row (hl : l.stackTraces = false) (x : Int32) (hv : x < 0 ∨ σ 0 12 ≤ x) : XMet l D g 130 [.ref g.1, .int x] σ := by
  refine vx_ofW (ws := zws 130) (ws' := zbig) (cc := zB 130) (maxL := 2) (ret := some .int) (by decide) rfl ?_
  intro p e s m args below meth c s₁ B hml ht hP
  obtain ⟨rfl, ⟨hg0, hP, hK, hnst, hao, -⟩, hte⟩ := hP
  have hx := B.exec
  have hb := B.bytes
  have hts0 := atoms_spec (ws := zws 130) B.pre
  have hts : ∀ w ∈ zbig, w.before #[.ref g.1, .int x] s = true := fun w hw => hts0 w (List.mem_cons_of_mem _ hw)
  have hown : s.vm.findClass "StartedByAYawn" = some m.cls := findClass_of_methodNamed B.named
  have hlocks := B.notSynchronized
  have hle := lv_entry ([.ref g.1, .int x]) (n := 2) (Nat.le_of_ble_eq_true rfl)
  rw [show (#[Value.ref g.1, .int x] : Array Value) = ([Value.ref g.1, .int x] : List Value).toArray from rfl, lg_entry_eq]
  generalize (lg_sl ([.ref g.1, .int x]) ++ List.replicate (2 - (lg_sl ([.ref g.1, .int x])).length) Slot.unset).toArray = ls at hle ⊢
  have hle : lv_has ls 2 [(0, .ref g.1), (1, .int x)] := hle
  have fin : W p l e xrm s m #[.ref g.1, .int x] below meth c s.heap [] 0 0 (vx_MQ below (XQ g) (XCf D g σ) #[.ref g.1, .int x] s 1 6 (zA g)) (F0 m 21 ls []) :=
    ns_end hx hb hl hml hown hts hte ⟨hP, va_S.rf⟩ hle.1 ht hlocks hte.2.2.1 (Or.inr ⟨by decide +kernel, by decide +kernel, by decide +kernel, by decide +kernel, by decide +kernel⟩)
  refine lv_iload_n hx hb (show decode (zB 130) 0 = .ok (.iload_n 1, 1) by decide +kernel) rfl (lv_at hle 1 rfl) ?_
  refine lv_if_lt (tgt := 21) hx hb (show decode (zB 130) 1 = .ok (.ifCond .lt 20, 3) by decide +kernel) (by decide) (fun _ => fin) (fun hy0 => ?_)
  refine lv_iload_n hx hb (show decode (zB 130) 4 = .ok (.iload_n 1, 1) by decide +kernel) rfl (lv_at hle 1 rfl) ?_
  refine lv_aload_n hx hb (show decode (zB 130) 5 = .ok (.aload_n 0, 1) by decide +kernel) rfl (lv_at hle 0 rfl) ?_
  refine gen_get0 (g := g) (D := D) (σ := σ) (k := 333) (bI := 12) (f := 0) hx hb hown hts hK hP (by decide +kernel) rfl rfl (show decode (zB 130) 6 = .ok (.getfield 333, 3) by decide +kernel) ?_
  refine lv_icmp_ge (tgt := 21) hx hb (show decode (zB 130) 9 = .ok (.if_icmp .ge 12, 3) by decide +kernel) (by decide) (fun _ => fin) (fun hv0 => ?_)
  rcases hv with q | q
  · exact absurd q hy0
  · exact absurd q hv0
end THREE3
