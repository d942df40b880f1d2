/-! from runs to contracts, two calls and their comparing -/
def zkB (q : Nat × Nat × List Nat) : Bool := match q with
  | (t, ci, fl) => !(t == 0) || (Nat.blt ci 13 && fl.length == (zTf ci).2.2 && (!(fl.all (fun f => Nat.ble f 1)) || (List.range fl.length).all (fun j => match parseFieldDescriptor ((zTf ci).2.1 j).2.2.1 with
    | some ty => decide (defaultValue ty = if fl.getD j 0 = 0 then .int 0 else .null)
    | none => true)))
theorem zkB_ok {zk : zKd} (h : (List.range 238).all (fun o => zkB (zk o)) = true) (h2 : ∀ o, 238 ≤ o → zk o = (9, 0, [])) : zKok zk := by
  intro o ci fl hz
  by_cases ho : o < 238
  · have h3 := List.all_eq_true.mp h o (List.mem_range.mpr ho)
    rw [hz] at h3
    unfold zkB at h3
    simp only [beq_self_eq_true, Bool.not_true, Bool.false_or, Bool.and_eq_true, Nat.blt_eq, beq_iff_eq] at h3
    obtain ⟨⟨h4, h5⟩, h6⟩ := h3
    refine ⟨h4, h5, fun hall j hj ty hty => ?_⟩
    rw [hall, Bool.not_true, Bool.false_or] at h6
    have h7 := List.all_eq_true.mp h6 j (List.mem_range.mpr hj)
    rw [hty] at h7
    exact of_decide_eq_true h7
  · rw [h2 o (by omega)] at hz
    have h9 : (9 : Nat) = 0 := congrArg Prod.fst hz
    exact absurd h9 (by decide)
theorem zkL_len : zkL.length = 238 ∧ zkLC.length = 238 := by decide +kernel
theorem zkS_hi (o : Nat) (h : 238 ≤ o) : zkS o = (9, 0, []) := by
  unfold zkS
  rw [List.getD_eq_getElem?_getD, List.getElem?_eq_none (by rw [zkL_len.1]; exact h)]; rfl
theorem zkC_hi (o : Nat) (h : 238 ≤ o) : zkC o = (9, 0, []) := by
  unfold zkC
  rw [List.getD_eq_getElem?_getD, List.getElem?_eq_none (by rw [zkL_len.2]; exact h)]; rfl
theorem zkS_ok : zKok zkS := zkB_ok (by decide +kernel) zkS_hi
theorem zkC_ok : zKok zkC := zkB_ok (by decide +kernel) zkC_hi
theorem zk2_ok {zk : zKd} (h : (List.range 238).all (fun o => Nat.ble (zk o).2.1 60000) = true) (h2 : ∀ o, 238 ≤ o → zk o = (9, 0, [])) : zKok2 zk := by
  intro o
  by_cases ho : o < 238
  · have h3 := List.all_eq_true.mp h o (List.mem_range.mpr ho)
    exact Nat.le_of_ble_eq_true h3
  · rw [h2 o (by omega)]; decide
theorem zkS_ok2 : zKok2 zkS := zk2_ok (by decide +kernel) zkS_hi
theorem zkC_ok2 : zKok2 zkC := zk2_ok (by decide +kernel) zkC_hi
theorem zc_met {l : Launch} {D : va_G} {g : zG} {d mi : Nat} {as : List Value} {σ : zS} {Q : Int32 → zS → Prop} (h : ZC (d + 1) mi as σ Q) (hmi : mi < 274) (has : ∀ w ∈ as, zc1 w = true) (hlen : as.length ≤ (zMi mi).2.1) : ∃ v σ', ZMet l D g zkS false d mi as 238 σ v 238 σ' ∧ Q v σ' := by
  obtain ⟨k, v, σ', h1, q⟩ := ZC_run.mp h
  have h2 : zrun zkS false d k mi as 238 σ = some (v, 238, σ') := h1
  exact ⟨v, σ', zrun_sound zkS_ok zkS_ok2 d k mi as 238 σ v 238 σ' hmi has hlen h2, q⟩
theorem argL_c1 (xs : Nat → Int32) (i n o : Nat) : ∀ w ∈ Value.ref o :: argL xs i n, zc1 w = true := by
  intro w hw
  rcases List.mem_cons.mp hw with h | h
  · rw [h]; rfl
  · obtain ⟨x, rfl⟩ := argL_int xs i n w h; rfl
abbrev callD (pc n kc kr : Nat) (off : Int) : Prop := decode code pc = .ok (.aload_n 1, 1) ∧ argsB (pc + 1) n = true ∧ decode code (pc + 1 + 6 * n) = .ok (.invokevirtual kc, 3) ∧ decode code (pc + 1 + 6 * n + 3) = .ok (.aload_n 2, 1) ∧ argsB (pc + 1 + 6 * n + 3 + 1) n = true ∧ decode code (pc + 1 + 6 * n + 3 + 1 + 6 * n) = .ok (.invokevirtual kr, 3) ∧ decode code (pc + 1 + 6 * n + 3 + 1 + 6 * n + 3) = .ok (.if_icmp .eq off, 3) ∧ ((pc + 1 + 6 * n + 3 + 1 + 6 * n + 3 : Nat) : Int) + off = (1614 : Nat)
/-- what a case of the law says of a method: it is called by k, has n ints, answers -/
abbrev methD (k a n cls : Nat) : Prop := a < 274 ∧ zNa a = n ∧ (zMi a).2.2 ≠ none ∧ (zMi a).1 = cls ∧ n + 1 ≤ (zMi a).2.1
theorem zkS_0 : ∃ fl, zkS 0 = (0, 11, fl) := ⟨_, rfl⟩
theorem zkS_214 : ∃ fl, zkS 214 = (0, 12, fl) := ⟨_, rfl⟩
section LAW2
variable {p : Program} {l : Launch} {e : Env} {s : State} {m : MethodId} {below : List Frame} {meth : Method} {c : Code} {b L : Nat} {xs : Nat → Int32} {D : va_G} {g : zG}
variable {H : Heap} {locs : List Loc} {cells slots pc : Nat} {ls : Array Slot} {st : List Value} {σ : zS}
theorem law_pair (C : LC p s m meth c b L xs D g) (hw : LW D g s σ H locs) {i : Nat} (hl : LL g b (nI i) ls) (hi : i + 5 ≤ L) (hcc : cells ≤ 601024) (hss : slots ≤ 7293033) {n a r kc kr dc dr b' : Nat} {off : Int} (hn : n ≤ 4) (hd : callD pc n kc kr off) (ma : methD kc a n 11) (mr : methD kr r n 12) (va : a ∈ zVi) (vr : r ∈ zVi) (wa : Cond.methodLink R_law kc (zY a) ∈ tables_1) (wr : Cond.methodLink R_law kr (zY r) ∈ tables_1) (hdc : dc ≤ 1000) (hdr : dr ≤ 1000)
    (hB : Both (dc + 1) a (.ref 0 :: argL xs i n) (dr + 1) r (.ref 214 :: argL xs i n) b' σ)
    (kk : ∀ H1 locs1 σ2, LW D g s σ2 H1 locs1 → Inv b' σ2 → WW p l e s m b below meth c H1 locs1 cells slots 1614 ls []) : WW p l e s m b below meth c H locs cells slots pc ls [] := by
  obtain ⟨d1, d2, d3, d4, d5, d6, d7, d8⟩ := hd
  obtain ⟨a1, a2, a3, a4, a5⟩ := ma
  obtain ⟨r1, r2, r3, r4, r5⟩ := mr
  have hx := C.1.1
  have hb := C.1.2.1
  obtain ⟨f0, z0⟩ := zkS_0
  obtain ⟨f1, z1⟩ := zkS_214
  obtain ⟨v1, σ1, M1, hB1⟩ := zc_met (l := l) (D := D) (g := g) hB a1 (argL_c1 xs i n 0) (by rw [List.length_cons, argL_len]; omega)
  obtain ⟨v2, σ2, M2, hv, hI⟩ := zc_met (l := l) (D := D) (g := g) hB1 r1 (argL_c1 xs i n 214) (by rw [List.length_cons, argL_len]; omega)
  refine lv_aload_n hx hb d1 rfl (lv_at hl 1 rfl) ?_
  refine law_args C hw hl hi n hn d2 ?_
  refine law_call C hw hl.1 (o := 0) (n := n) (As := argL xs i n) (rest := []) d3 a1 va wa (by decide) (by rw [z0, a4]) (by rw [a4]; decide) a2 (argL_len xs i n) (argL_int xs i n) hdc a3 M1 (by decide) (fun H1 locs1 hw1 => ?_) hcc hss
  refine lv_aload_n hx hb d4 rfl (lv_at hl 2 rfl) ?_
  refine law_args C hw1 hl hi n hn d5 ?_
  refine law_call C hw1 hl.1 (o := 214) (n := n) (As := argL xs i n) (rest := [.int v1]) d6 r1 vr wr (by decide) (by rw [z1, r4]) (by rw [r4]; decide) r2 (argL_len xs i n) (argL_int xs i n) hdr r3 M2 (Nat.le_of_ble_eq_true rfl) (fun H2 locs2 hw2 => ?_) hcc hss
  refine lv_icmp_eq hx hb d7 d8 (fun _ => kk H2 locs2 σ2 hw2 hI) (fun q => absurd hv q)
end LAW2
