theorem nsBad_eq : (nsAt "StartedByAYawn" 152).filter (fun w => !goodWord w) = [.declares (Bundle.initS nsR), .declares (Bundle.initS "java/lang/Exception"), .declares (Bundle.initS Bundle.tN), .castable nsE nsE] := by decide +kernel
/-! a call from any body -/
section GCALL
variable {p : Program} {l : Launch} {e : Env} {R : Room} {s : State} {m : MethodId} {args : Array Value} {below : List Frame} {meth : Method} {c : Code} {D : va_G} {g : zG} {Q : State → Prop}
variable {H : Heap} {locs : List Loc} {cells slots pc : Nat} {ls : Array Slot} {st : List Value} {σ : zS}
theorem gen_call {cc : ByteArray} {nL : Nat} {own : String} (hx : p.tables.exec = Jvm.exec) (hb : c.code = cc) (hml : c.maxLocals = nL) (hown : s.vm.findClass own = some m.cls) (hts : ∀ w ∈ zbig, w.before args s = true) (hK : va_K D zCl (zTy g) s) (hnst : ∀ q ∈ zML, 3 ≤ q.2.2.2 → va_Nw (.methodLinkNest (zCs q.1) q.2.1 (zY q.2.2.1) "StartedByAYawn") s) (hao : va_AO "StartedByAYawn$Kept" s) (hg : g.1 ≤ s.heap.size)
    (hw : LW D g s σ H locs) (hls : ls.size = nL) {k a n o d : Nat} {v : Int32} {σ' : zS} {fl : List Nat} {As rest : List Value} (hd : decode cc pc = .ok (.invokevirtual k, 3)) (ha : a < 274) (hvi : a ∈ zVi) (hwl : (Cond.methodLink own k (zY a)).before args s = true) (ho : o < 238) (hzk : zkS o = (0, (zMi a).1, fl)) (hci : (zMi a).1 < 13) (hna : zNa a = n) (hlen : As.length = n) (hint : ∀ w ∈ As, ∃ x, w = .int x) (hRf : d + 2 ≤ R.frames) (hRl : 40 + 40 * (d + 1) ≤ R.locals) (hret : (zMi a).2.2 ≠ none)
    (hM : ZMet l D g zkS false d a (.ref o :: As) 238 σ v 238 σ') (hroom : (rest.map fun v => v.category).sum ≤ 8)
    (kk : ∀ H1 locs1, LW D g s σ' H1 locs1 → W p l e R s m args below meth c H1 locs1 cells slots Q (F0 m (pc + 3) ls (.int v :: rest))) (hcc : cells ≤ R.cells) (hss : slots ≤ R.slots) : W p l e R s m args below meth c H locs cells slots Q (F0 m pc ls (As.reverse ++ .ref (g.1 + o) :: rest)) := by
  obtain ⟨hP, hS⟩ := hw
  obtain ⟨-, hyc, hy1, hy2, -⟩ := zMok_all a (List.mem_range.mpr ha)
  have hmx := zMl_ok a (List.mem_range.mpr ha)
  have hRf2 : (zrm zkS d 238 238).frames + 1 ≤ R.frames := by show d + 1 + 1 ≤ R.frames; omega
  have hRl2 : 8 + ((zMi a).2.1 + 11) + (zrm zkS d 238 238).locals ≤ R.locals := by show 8 + ((zMi a).2.1 + 11) + 40 * (d + 1) ≤ R.locals; omega
  have hws := pay_in hts (zs_good a ha)
  have hcode : (Cond.code (zY a) (zB a) (zMi a).2.1 (zMi a).2.2).before args s = true := hts _ (zbig_t (zMc_all a (List.mem_range.mpr ha)) rfl)
  obtain ⟨-, -, -, -, hcl⟩ := zcls hci
  have he : (zWl g zkS 238 σ)[o]? = some (g.1 + o, .inr ((zMi a).1, zfs g.1 σ o fl)) := by
    rw [zWl_get g zkS σ ho]
    simp only [zcell, hzk]
  have hrecv := va_recv hK hP hcl he
  have hCn : (zTf (zMi a).1).1 = (zY a).cls := by rw [zTn_ok _ hci, hyc]
  rw [hCn] at hrecv
  have emap : (Value.ref o :: As).map (zcv g.1) = Value.ref (g.1 + o) :: As := by
    rw [List.map_cons, ints_map g.1 As hint]; rfl
  unfold ZMet at hM
  rw [emap] at hM
  have hbl2 : FrameBlind (va_Pc (Value.ref (g.1 + o) :: As) (zPre D g zkS false 238 σ)) := fun a U gf mk q => by
    obtain ⟨q0, q1, q2, q3, q4, q5, q6⟩ := q
    exact ⟨q0, q1, q2, va_K.moved (u := U) (U := U.calling gf mk a) (Vm.Alike.refl U.vm) q3, fun x hx h3 => va_Nw.same rfl rfl (q4 x hx h3), va_AO.moved (u := U) (U := U.calling gf mk a) (Vm.Alike.refl U.vm) q5, q6⟩
  have hp : PreV s H (zY a).cls (g.1 + o) (va_Pc (Value.ref (g.1 + o) :: As) (zPre D g zkS false 238 σ)) As := ⟨hbl2, hrecv, fun U hU hW => ⟨rfl, zs_pre hP hK hnst hao (fun q => by cases q) (Nat.le_trans hg hS.1) U hU hW⟩⟩
  have hrun := va_runV (p := p) (l := l) (e := e) (R := R) (s := s) (m := m) (args := args) (below := below) (meth := meth) (c := c) (H := H) (locs := locs) (cells := cells) (slots := slots) (g := F0 m pc ls (As.reverse ++ .ref (g.1 + o) :: rest)) (rest := rest) (nL := nL) (own := own) (cc := cc) (Ts := zbig) ⟨hx, hb, hml, hown, hts⟩ hM ⟨⟨rfl, rfl, hRf2, hRl2, hws, List.mem_cons_self, hcode, zs_init hts ha, ⟨hy1, hy2⟩, zs_params (k := n) hna, hwl⟩, hts _ (zbig_t (zVic_all a hvi) rfl), hts _ (zbig_l (zVis_all a hvi) rfl)⟩ hp rfl hlen hls rfl (lv_room hroom) hd ⟨by show cells + (238 - 238) ≤ R.cells; omega, by show slots + (zsz zkS 238 - zsz zkS 238) ≤ R.slots; omega⟩
  unfold zPost at hrun
  cases hq : (zMi a).2.2 with
  | none => exact absurd hq hret
  | some ty =>
    rw [hq] at hrun
    refine va_calli hrun hS (fun q _ h => h) (fun q h => h) fun r u t H1 locs1 ht _ hv hB _ _ hS1 => ?_
    obtain ⟨hP1, -⟩ := hB
    rw [ht] at hP1
    have hv : r = v := hv
    subst hv
    have := kk H1 locs1 ⟨hP1, hS1⟩
    rw [Nat.sub_self, Nat.sub_self, Nat.add_zero, Nat.add_zero]
    exact this
end GCALL
