/-! THE LAW'S OWN BODY -/
def LC (p : Program) (s : State) (m : MethodId) (meth : Method) (c : Code) (b L : Nat) (xs : Nat → Int32) (D : va_G) (g : zG) : Prop :=
  lw_At p s m meth c b L xs ∧ L ≤ 2560 ∧ va_K D zCl (zTy g) s ∧ (∀ q ∈ zML, 3 ≤ q.2.2.2 → va_Nw (.methodLinkNest (zCs q.1) q.2.1 (zY q.2.2.1) "StartedByAYawn") s) ∧ va_AO "StartedByAYawn$Kept" s ∧ g.1 = s.heap.size
def LW (D : va_G) (g : zG) (s : State) (σ : zS) (H : Heap) (locs : List Loc) : Prop := va_P D zCl (zWl g zkS 238 σ) H ∧ va_S (zA g) s.heap H locs
def LL (g : zG) (b : Nat) (i : Int32) (ls : Array Slot) : Prop := lv_has ls 7 [(0, .ref b), (1, .ref g.1), (2, .ref (g.1 + 214)), (3, .ref (g.1 + 237)), (4, .int i)]
abbrev WW (p : Program) (l : Launch) (e : Env) (s : State) (m : MethodId) (b : Nat) (below : List Frame) (meth : Method) (c : Code) (H : Heap) (locs : List Loc) (cells slots pc : Nat) (ls : Array Slot) (st : List Value) : Prop := W p l e room_1 s m #[Value.ref b] below meth c H locs cells slots (lw_Z below #[Value.ref b] s) (F0 m pc ls st)
abbrev argd (pc : Nat) (k : Int) : Prop := decode code pc = .ok (.aload_n 0, 1) ∧ decode code (pc + 1) = .ok (.iload 4, 2) ∧ decode code (pc + 3) = .ok (.iconst k, 1) ∧ decode code (pc + 4) = .ok (.iadd, 1) ∧ decode code (pc + 5) = .ok (.iaload, 1)
def argsB (pc : Nat) : Nat → Bool
  | 0 => true
  | n + 1 => argsB pc n && decide (argd (pc + 6 * n) ((n : Int) + 1))
def argL (xs : Nat → Int32) (i : Nat) : Nat → List Value
  | 0 => []
  | n + 1 => argL xs i n ++ [.int (xs (i + (n + 1)))]
theorem argL_len (xs : Nat → Int32) (i : Nat) : ∀ n, (argL xs i n).length = n := by
  intro n
  induction n with
  | zero => rfl
  | succ n ih => simp [argL, ih]
theorem argL_int (xs : Nat → Int32) (i : Nat) : ∀ n, ∀ w ∈ argL xs i n, ∃ x, w = .int x := by
  intro n
  induction n with
  | zero => intro w hw; exact absurd hw List.not_mem_nil
  | succ n ih =>
    intro w hw
    rcases List.mem_append.mp hw with h | h
    · exact ih w h
    · exact ⟨_, List.mem_singleton.mp h⟩
theorem ints_map (b : Nat) : ∀ As : List Value, (∀ w ∈ As, ∃ x, w = .int x) → As.map (zcv b) = As := by
  intro As
  induction As with
  | nil => intro _; rfl
  | cons v r ih =>
    intro h
    obtain ⟨x, hx⟩ := h v List.mem_cons_self
    rw [List.map_cons, ih (fun w hw => h w (List.mem_cons_of_mem _ hw)), hx]
    rfl
section LAW
variable {p : Program} {l : Launch} {e : Env} {s : State} {m : MethodId} {below : List Frame} {meth : Method} {c : Code} {b L : Nat} {xs : Nat → Int32} {D : va_G} {g : zG}
variable {H : Heap} {locs : List Loc} {cells slots pc : Nat} {ls : Array Slot} {st : List Value} {σ : zS}
theorem law_arg (C : LC p s m meth c b L xs D g) (hw : LW D g s σ H locs) {i k : Nat} (hl : LL g b (nI i) ls) (hk : k ≤ 4) (hi : i + 5 ≤ L) {kI : Int} (hkI : Int32.ofInt kI = nI k) (hd : argd pc kI) (kk : WW p l e s m b below meth c H locs cells slots (pc + 6) ls (.int (xs (i + k)) :: st)) : WW p l e s m b below meth c H locs cells slots pc ls st := by
  obtain ⟨⟨hx, hb, hr, hml, hown, hts, hX, hbl, hlocks, hgv⟩, hL, hK, hnst, hao, hg⟩ := C
  obtain ⟨d0, d1, d3, d4, d5⟩ := hd
  refine lv_aload_n hx hb d0 rfl (lv_at hl 0 rfl) ?_
  refine lv_iload hx hb d1 (lv_at hl 4 rfl) ?_
  refine lv_iconst (v := nI k) hx hb d3 hkI ?_
  refine lv_iadd hx hb d4 ?_
  rw [nI_add]
  refine va_sld hx hb hX hbl (Nat.not_le.mpr (by rw [hg]; exact hbl)) hw.2 (vp_in_nI (by omega) (by omega)) d5 ?_
  rw [zcl (by omega)]
  exact kk
theorem law_args (C : LC p s m meth c b L xs D g) (hw : LW D g s σ H locs) {i : Nat} (hl : LL g b (nI i) ls) (hi : i + 5 ≤ L) : ∀ (n : Nat), n ≤ 4 → argsB pc n = true → (WW p l e s m b below meth c H locs cells slots (pc + 6 * n) ls ((argL xs i n).reverse ++ st)) → WW p l e s m b below meth c H locs cells slots pc ls st := by
  intro n
  induction n with
  | zero => intro _ _ kk; exact kk
  | succ n ih =>
    intro hn hd kk
    simp only [argsB, Bool.and_eq_true, decide_eq_true_eq] at hd
    refine ih (by omega) hd.1 (law_arg C hw (k := n + 1) hl (by omega) hi ?_ hd.2 ?_)
    · have h2 : n = 0 ∨ n = 1 ∨ n = 2 ∨ n = 3 := by omega
      rcases h2 with rfl | rfl | rfl | rfl <;> decide
    · rw [argL, List.reverse_append, List.append_assoc, List.reverse_singleton, List.singleton_append] at kk
      rw [show pc + 6 * n + 6 = pc + 6 * (n + 1) by omega]
      exact kk
theorem law_call (C : LC p s m meth c b L xs D g) (hw : LW D g s σ H locs) {ls : Array Slot} (hls : ls.size = 7) {k a n o d : Nat} {v : Int32} {σ' : zS} {fl : List Nat} {As rest : List Value} (hd : decode code pc = .ok (.invokevirtual k, 3)) (ha : a < 274) (hvi : a ∈ zVi) (hwl : Cond.methodLink R_law k (zY a) ∈ tables_1) (ho : o < 238) (hzk : zkS o = (0, (zMi a).1, fl)) (hci : (zMi a).1 < 13) (hna : zNa a = n) (hlen : As.length = n) (hint : ∀ w ∈ As, ∃ x, w = .int x) (hd9 : d ≤ 1000) (hret : (zMi a).2.2 ≠ none)
    (hM : ZMet l D g zkS false d a (.ref o :: As) 238 σ v 238 σ') (hroom : (rest.map fun v => v.category).sum ≤ 8)
    (kk : ∀ H1 locs1, LW D g s σ' H1 locs1 → WW p l e s m b below meth c H1 locs1 cells slots (pc + 3) ls (.int v :: rest)) (hcc : cells ≤ 601024) (hss : slots ≤ 7293033) : WW p l e s m b below meth c H locs cells slots pc ls (As.reverse ++ .ref (g.1 + o) :: rest) := by
  obtain ⟨⟨hx, hb, hr, hml, hown, hts0, hX, hbl, hlocks, hgv⟩, hL, hK, hnst, hao, hg⟩ := C
  obtain ⟨hP, hS⟩ := hw
  have hts : ∀ w ∈ zbig, w.before #[Value.ref b] s = true := fun w hw => hts0 w (List.mem_filter.mp hw).1
  obtain ⟨-, hyc, hy1, hy2, -⟩ := zMok_all a (List.mem_range.mpr ha)
  have hmx := zMl_ok a (List.mem_range.mpr ha)
  have hRf : (zrm zkS d 238 238).frames + 1 ≤ room_1.frames := by show d + 1 + 1 ≤ 2048; omega
  have hRl : 8 + ((zMi a).2.1 + 11) + (zrm zkS d 238 238).locals ≤ room_1.locals := by show 8 + ((zMi a).2.1 + 11) + 40 * (d + 1) ≤ 84000; omega
  have hws := pay_in hts (zs_good a ha)
  have hcode : (Cond.code (zY a) (zB a) (zMi a).2.1 (zMi a).2.2).before #[Value.ref b] s = true := hts _ (zbig_t (zMc_all a (List.mem_range.mpr ha)) rfl)
  obtain ⟨-, -, -, -, hcl⟩ := zcls hci
  have he : (zWl g zkS 238 σ)[o]? = some (g.1 + o, .inr ((zMi a).1, zfs g.1 σ o fl)) := by
    rw [zWl_get g zkS σ ho]
    simp only [zcell, hzk]
  have hrecv := va_recv hK hP hcl he
  have hCn : (zTf (zMi a).1).1 = (zY a).cls := by rw [zTn_ok _ hci, hyc]
  rw [hCn] at hrecv
  have emap : (Value.ref o :: As).map (zcv g.1) = Value.ref (g.1 + o) :: As := by
    rw [List.map_cons, ints_map g.1 As hint]; rfl
  unfold ZMet at hM
  rw [emap] at hM
  have hbl2 : FrameBlind (va_Pc (Value.ref (g.1 + o) :: As) (zPre D g zkS false 238 σ)) := by
    rw [← emap]
    have := zs_blind (D := D) (g := g) (zk := zkS) (al := false) (n := 238) (σ := σ) (as := (Value.ref o :: As))
    exact fun a U gf mk q => by
      obtain ⟨q0, q1, q2, q3, q4, q5, q6⟩ := q
      exact ⟨q0, q1, q2, va_K.moved (u := U) (U := U.calling gf mk a) (Vm.Alike.refl U.vm) q3, fun x hx h3 => va_Nw.same rfl rfl (q4 x hx h3), va_AO.moved (u := U) (U := U.calling gf mk a) (Vm.Alike.refl U.vm) q5, q6⟩
  have hp : PreV s H (zY a).cls (g.1 + o) (va_Pc (Value.ref (g.1 + o) :: As) (zPre D g zkS false 238 σ)) As := ⟨hbl2, hrecv, fun U hU hW => ⟨rfl, zs_pre hP hK hnst hao (fun q => by cases q) (Nat.le_trans (by rw [hg]; exact Nat.le_refl _) hS.1) U hU hW⟩⟩
  have hrun := va_runV (p := p) (l := l) (e := e) (R := room_1) (s := s) (m := m) (args := #[Value.ref b]) (below := below) (meth := meth) (c := c) (H := H) (locs := locs) (cells := cells) (slots := slots) (g := F0 m pc ls (As.reverse ++ .ref (g.1 + o) :: rest)) (rest := rest) (nL := 7) (own := R_law) (cc := code) (Ts := lw_tbl) ⟨hx, hb, hml, hown, hts0⟩ hM ⟨⟨rfl, rfl, hRf, hRl, hws, List.mem_cons_self, hcode, zs_init hts ha, ⟨hy1, hy2⟩, zs_params (k := n) hna, hts0 _ (lw_of_t hwl)⟩, hts _ (zbig_t (zVic_all a hvi) rfl), hts _ (zbig_l (zVis_all a hvi) rfl)⟩ hp rfl hlen hls rfl (lv_room hroom) hd ⟨by show cells + (238 - 238) ≤ 601024; omega, by show slots + (zsz zkS 238 - zsz zkS 238) ≤ 7293033; omega⟩
  unfold zPost at hrun
  cases hq : (zMi a).2.2 with
  | none => exact absurd hq hret
  | some ty =>
    rw [hq] at hrun
    refine va_calli hrun hS (fun q _ h => h) (fun q h => h) fun r u t H1 locs1 ht _ hv hB _ _ hS1 => ?_
    obtain ⟨hP1, -⟩ := hB
    rw [ht] at hP1
    have hv : r = v := hv
    subst hv
    have := kk H1 locs1 ⟨hP1, hS1⟩
    rw [Nat.sub_self, Nat.sub_self, Nat.add_zero, Nat.add_zero]
    exact this
end LAW
