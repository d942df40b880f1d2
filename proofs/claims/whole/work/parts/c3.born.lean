/-! what the law makes -/
set_option maxRecDepth 100000 in
theorem lb_words : Cond.classLink R_law 8 "StartedByAYawn" ∈ tables_1 ∧ Cond.classLink R_law 23 "StartedByAYawnModel" ∈ tables_1 ∧ Cond.methodLink R_law 22 (zY 81) ∈ tables_1 ∧ Cond.methodLink R_law 25 (zY 169) ∈ tables_1 := ⟨List.mem_of_getElem? (i := 22) rfl, List.mem_of_getElem? (i := 1115) rfl, List.mem_of_getElem? (i := 24) rfl, List.mem_of_getElem? (i := 1117) rfl⟩
def LN (D : va_G) (g : zG) (s : State) (n : Nat) (σ : zS) (H : Heap) (locs : List Loc) : Prop := va_P D zCl (zWl g zkC n σ) H ∧ va_S (zA g) s.heap H locs ∧ H.size = g.1 + n ∧ ∀ o, n ≤ o → ∀ i, σ o i = 0
theorem zsz_4 {zk : zKd} {n len : Nat} {fl : List Nat} (h : zk n = (4, len, fl)) : zsz zk (n + 1) = zsz zk n + len := by simp only [zsz, h]
theorem zszC : zsz zkC 238 ≤ 100000 := by decide +kernel
section BORN
variable {p : Program} {l : Launch} {e : Env} {s : State} {m : MethodId} {below : List Frame} {meth : Method} {c : Code} {b L : Nat} {xs : Nat → Int32} {D : va_G} {g : zG}
variable {H : Heap} {locs : List Loc} {pc : Nat} {ls : Array Slot} {st : List Value} {σ : zS}
theorem law_new (C : LC p s m meth c b L xs D g) {n ci k : Nat} {fl : List Nat} (hw : LN D g s n σ H locs) (hn : n < 238) (hzk : zkC n = (0, ci, fl)) (hall : fl.all (fun f => Nat.ble f 1) = true) (hd : decode code pc = .ok (.new k, 3)) (hlk : Cond.classLink R_law k (zTf ci).1 ∈ tables_1)
    (kk : ∀ H1, LN D g s (n + 1) σ H1 locs → WW p l e s m b below meth c H1 locs (n + 1) (zsz zkC (n + 1)) (pc + 3) ls (.ref (g.1 + n) :: st)) : WW p l e s m b below meth c H locs n (zsz zkC n) pc ls st := by
  obtain ⟨⟨hx, hb, hr, hml, hown, hts, hX, hbl, hlocks, hgv⟩, hL, hK, hnst, hao, hg⟩ := C
  obtain ⟨hP, hS, hz, hfr⟩ := hw
  obtain ⟨hci, hfl, hdef⟩ := zkC_ok n ci fl hzk
  obtain ⟨ty, hty, hnn, hin, hcl⟩ := zcls hci
  have hKn := hK.1 ci _ hcl
  have hsz : zsz zkC (n + 1) = zsz zkC n + fl.length := by simp only [zsz, hzk]
  have hm2 := zsz_mono zkC (show n + 1 ≤ 238 by omega)
  have hC := zszC
  have hown2 : s.vm.findClass (zTf ci).1 = some (D.1 ci) := hKn.2.1
  have hinst : (Cond.instantiable (zTf ci).1 (zTf ci).2.2).before #[Value.ref b] s = true := by
    rw [zTn_ok ci hci]
    exact hts _ (lw_of_t (inst_all ci hci))
  have hini : (Cond.initialized (zTf ci).1).before #[Value.ref b] s = true := by
    rw [zTn_ok ci hci]
    exact hts _ (lw_of_t (zInit_all ci (by omega)))
  refine W.newcK (own := R_law) (C := (zTf ci).1) (n := (zTf ci).2.2) hx hb hown (hts _ (lw_of_t hlk)) hinst hini rfl hd (by show n + 1 ≤ 601024; omega) (by show zsz zkC n + (zTf ci).2.2 ≤ 7293033; omega) hown2 hz fun H1 kC hkC e1 z1 o1 => ?_
  have e3 : zsz zkC n + (zTf ci).2.2 = zsz zkC (n + 1) := by omega
  rw [e3]
  refine kk H1 ⟨?_, ⟨Nat.le_trans hS.1 (by omega), fun x h1 h2 => (o1 x (by have := hS.1; omega)).trans (hS.2.1 x h1 h2), hS.2.2⟩, by omega, fun o ho => hfr o (by omega)⟩
  rw [zWl_push]
  refine (hP.kept (fun k x hx => o1 x.1 (by have := (hP k x hx).lt; omega))).app (fun k x hx => ?_)
  have hz0 : k < 1 := (List.getElem?_eq_some_iff.mp hx).1
  rw [show k = 0 by omega] at hx
  cases hx
  have hcell : zcell g zkC σ n = .inr (ci, zfs g.1 σ n fl) := by simp only [zcell, hzk]
  rw [hcell]
  have hin2 : ∀ w ∈ u_ws (zTf ci).1 (zTf ci).2.1 (zTf ci).2.2, w ∈ lw_tbl := fun w hw => (List.mem_filter.mp (hin w hw)).1
  refine ⟨_, hcl, (u_born ty hts hin2 hKn hkC e1 hty).to (fun j hj => ?_)⟩
  have hj2 : j < fl.length := by rw [hfl]; exact hj
  rw [hdef hall j hj2 (ty j) (hty j hj)]
  have h2 : fl[j]? = some fl[j] := List.getElem?_eq_getElem hj2
  have h3 : fl[j] ≤ 1 := by
    have := List.all_eq_true.mp hall fl[j] (List.getElem_mem hj2)
    simpa using this
  simp only [vp_V, List.getD_eq_getElem?_getD, zfs_get _ _ _ h2, h2, Option.getD_some]
  have h4 : fl[j] = 0 ∨ fl[j] = 1 := by omega
  rcases h4 with h4 | h4 <;> rw [h4] <;> simp [zFld, zcv, hfr n (Nat.le_refl n), zdec]
theorem law_init (C : LC p s m meth c b L xs D g) {n n' o a k : Nat} {v : Int32} {σ' : zS} (hw : LN D g s n σ H locs) (hnn : n ≤ n') (hn' : n' ≤ 238) (hls : ls.size = 7) (hM : ZMet l D g zkC true 6 a [.ref o] n σ v n' σ') (ha : a < 274) (hret : (zMi a).2.2 = none) (hna : zNa a = 0) (hin9 : a ∈ zIn) (hd : decode code pc = .ok (.invokespecial k, 3)) (hwl : Cond.methodLink R_law k (zY a) ∈ tables_1) (hst : (st.map fun v => v.category).sum ≤ 8)
    (kk : ∀ H1 locs1, LN D g s n' σ' H1 locs1 → WW p l e s m b below meth c H1 locs1 n' (zsz zkC n') (pc + 3) ls st) : WW p l e s m b below meth c H locs n (zsz zkC n) pc ls (.ref (g.1 + o) :: st) := by
  obtain ⟨⟨hx, hb, hr, hml, hown, hts0, hX, hbl, hlocks, hgv⟩, hL, hK, hnst, hao, hg⟩ := C
  obtain ⟨hP, hS, hz, hfr⟩ := hw
  have hts : ∀ w ∈ zbig, w.before #[Value.ref b] s = true := fun w hw => hts0 w (List.mem_filter.mp hw).1
  obtain ⟨-, hyc, hy1, hy2, -⟩ := zMok_all a (List.mem_range.mpr ha)
  have hmx := zMl_ok a (List.mem_range.mpr ha)
  have hm2 := zsz_mono zkC hnn
  have hm3 := zsz_mono zkC hn'
  have hC := zszC
  have hRf : (zrm zkC 6 n n').frames + 1 ≤ room_1.frames := by show 6 + 1 + 1 ≤ 2048; omega
  have hRl : 8 + ((zMi a).2.1 + 11) + (zrm zkC 6 n n').locals ≤ room_1.locals := by show 8 + ((zMi a).2.1 + 11) + 40 * (6 + 1) ≤ 84000; omega
  have hws := pay_in hts (zs_good a ha)
  have hcode : (Cond.code (zY a) (zB a) (zMi a).2.1 none).before #[Value.ref b] s = true := by rw [← hret]; exact hts _ (zbig_t (zMc_all a (List.mem_range.mpr ha)) rfl)
  have hcw : Cond.code (zY a) (zB a) (zMi a).2.1 none ∈ zws a := by rw [← hret]; exact List.mem_cons_self
  have hbl2 : FrameBlind (va_Pc [Value.ref (g.1 + o)] (zPre D g zkC true n σ)) := fun a U gf mk q => by
    obtain ⟨q0, q1, q2, q3, q4, q5, q6⟩ := q
    exact ⟨q0, q1, q2, va_K.moved (u := U) (U := U.calling gf mk a) (Vm.Alike.refl U.vm) q3, fun x hx h3 => va_Nw.same rfl rfl (q4 x hx h3), va_AO.moved (u := U) (U := U.calling gf mk a) (Vm.Alike.refl U.vm) q5, q6⟩
  have hp : PreS s H (va_Pc [Value.ref (g.1 + o)] (zPre D g zkC true n σ)) [.ref (g.1 + o)] := ⟨hbl2, fun U hU hW => ⟨rfl, zs_pre hP hK hnst hao (fun _ => ⟨hz, hfr⟩) (by omega) U hU hW⟩⟩
  have hrun := va_runI (p := p) (l := l) (e := e) (R := room_1) (s := s) (m := m) (args := #[Value.ref b]) (below := below) (meth := meth) (c := c) (H := H) (locs := locs) (cells := n) (slots := zsz zkC n) (g := F0 m pc ls (.ref (g.1 + o) :: st)) (rest := st) (As := []) (nL := 7) (own := R_law) (cc := code) (Ts := lw_tbl) ⟨hx, hb, hml, hown, hts0⟩ hM ⟨⟨rfl, rfl, hRf, hRl, hws, hcw, hcode, zs_init hts ha, ⟨hy1, hy2⟩, zs_params (k := 0) hna, hts0 _ (lw_of_t hwl)⟩, zIn_ok2 a hin9, hts _ (zbig_t (zInc__all a hin9) rfl)⟩ hp rfl rfl hls rfl (lv_room hst) hd ⟨by show n + (n' - n) ≤ 601024; omega, by show zsz zkC n + (zsz zkC n' - zsz zkC n) ≤ 7293033; omega⟩
  unfold zPost at hrun
  rw [hret] at hrun
  refine va_callv hrun hS (fun q _ h => h) (fun q h => h) fun u t H1 locs1 ht _ _ hB _ _ hS1 => ?_
  have e2 : n + (n' - n) = n' := by omega
  have e3 : zsz zkC n + (zsz zkC n' - zsz zkC n) = zsz zkC n' := by omega
  rw [e2, e3]
  obtain ⟨hP1, ha1⟩ := hB
  rw [ht] at hP1 ha1
  exact kk H1 locs1 ⟨hP1, hS1, (ha1 rfl).1, (ha1 rfl).2⟩
theorem law_newL (C : LC p s m meth c b L xs D g) (hw : LN D g s 237 σ H locs) (hd : decode code pc = .ok (.newarray .long, 2))
    (kk : ∀ H1, LN D g s 238 σ H1 locs → WW p l e s m b below meth c H1 locs 238 (zsz zkC 238) (pc + 2) ls (.ref (g.1 + 237) :: st)) : WW p l e s m b below meth c H locs 237 (zsz zkC 237) pc ls (.int 1 :: st) := by
  obtain ⟨⟨hx, hb, hr, hml, hown, hts, hX, hbl, hlocks, hgv⟩, hL, hK, hnst, hao, hg⟩ := C
  obtain ⟨hP, hS, hz, hfr⟩ := hw
  have hC := zszC
  have hzk : zkC 237 = (4, 1, []) := rfl
  have hsz : zsz zkC 238 = zsz zkC 237 + 1 := zsz_4 hzk
  refine va_newaK (atype := .long) (N := 1) hx hb (hts _ (lw_of_t ar_words.2.2.2.1)) rfl hd rfl (by decide) rfl (by decide) (by decide) (by show zsz zkC 237 + 1 ≤ 7293033; omega) hz fun H1 cA e1 z1 o1 _ hNm => ?_
  rw [← hsz]
  refine kk H1 ⟨?_, ⟨Nat.le_trans hS.1 (by omega), fun x h1 h2 => (o1 x (by have := hS.1; omega)).trans (hS.2.1 x h1 h2), hS.2.2⟩, by omega, fun o ho => hfr o (by omega)⟩
  rw [zWl_push]
  refine (hP.kept (fun k x hx => o1 x.1 (by have := (hP k x hx).lt; omega))).app (fun k x hx => ?_)
  have hz0 : k < 1 := (List.getElem?_eq_some_iff.mp hx).1
  rw [show k = 0 by omega] at hx
  cases hx
  have hf0 : ∀ j, σ 237 j = 0 := hfr 237 (Nat.le_refl 237)
  have hcell : zcell g zkC σ 237 = .inl (g.2.2.2.2.1, 1, .inr (.inl (fun j => (σ 237 j).toInt64))) := by simp only [zcell, hzk]
  have hcA : cA = g.2.2.2.2.1 := Option.some.inj (hNm.symm.trans (hK.2 3 _ rfl).2)
  rw [hcell]
  show H1[g.1 + 237]? = some (vp_cell _ _)
  rw [e1, hcA, vp_cell_l]
  exact congrArg (fun f : Nat → Value => some (arrV g.2.2.2.2.1 1 f)) (funext fun j => by rw [hf0 j]; rfl)
end BORN
