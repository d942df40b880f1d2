/-! THE LAW, from its entry -/
theorem flags_st {l : Launch} (h : l.flags = flags0) : l.stackTraces = false := by
  unfold Launch.stackTraces
  rw [h]
  decide
set_option maxHeartbeats 4000000 in
theorem whole_start {p : Program} {e : Env} {s : State} {m : MethodId} {below : List Frame} {meth : Method} {c : Code} (l : Launch) (hflags : l.flags = flags0) {b L : Nat} {xs : Nat → Int32} (hL : L ≤ 2560) (C0 : lw_At p s m meth c b L xs) : W p l e room_1 s m #[Value.ref b] below meth c s.heap [] 0 0 (lw_Z below #[Value.ref b] s) (entryFrame m ([Value.ref b] : List Value).toArray 7) := by
  obtain ⟨D, g, C, hte⟩ := law_world hL C0
  have hst := flags_st hflags
  have hx := C.1.1
  have hb := C.1.2.1
  have hg := C.2.2.2.2.2
  have hl := lv_entry ([.ref b]) (n := 7) (Nat.le_of_ble_eq_true rfl)
  rw [lg_entry_eq]
  generalize (lg_sl ([.ref b]) ++ List.replicate (7 - (lg_sl ([.ref b])).length) Slot.unset).toArray = ls at hl ⊢
  have hl : lv_has ls 7 [(0, .ref b)] := hl
  have hw0 : LN D g s 0 zS0 s.heap [] := ⟨fun k q h => absurd h (by simp [zWl]), va_S.rf, by rw [hg]; rfl, fun _ _ _ => rfl⟩
  have hB1 : zrun zkC true 6 100000 81 [.ref 0] 1 zS0 = some (zBvv zB1, 214, zBst zB1) := zB_some zB1_n (by decide)
  obtain ⟨vB, σB, hB2, hok, hgood⟩ := zB2_ex
  have M1 : ZMet l D g zkC true 6 81 [.ref 0] 1 zS0 (zBvv zB1) 214 (zBst zB1) := zrun_sound zkC_ok zkC_ok2 6 100000 81 [.ref 0] 1 zS0 _ _ _ (by decide) (fun w hw => by rw [List.mem_singleton.mp hw]; rfl) (show 1 ≤ (zMi 81).2.1 by decide +kernel) hB1
  have M2 : ZMet l D g zkC true 6 169 [.ref 214] 215 (zBst zB1) vB 237 σB := zrun_sound zkC_ok zkC_ok2 6 100000 169 [.ref 214] 215 (zBst zB1) _ _ _ (by decide) (fun w hw => by rw [List.mem_singleton.mp hw]; rfl) (show 1 ≤ (zMi 169).2.1 by decide +kernel) hB2
  obtain ⟨fl0, z0⟩ : ∃ fl, zkC 0 = (0, 11, fl) := ⟨_, rfl⟩
  obtain ⟨fl1, z1⟩ : ∃ fl, zkC 214 = (0, 12, fl) := ⟨_, rfl⟩
  have a0 : fl0.all (fun f => Nat.ble f 1) = true := by
    have h : (zkC 0).2.2.all (fun f => Nat.ble f 1) = true := by decide +kernel
    rw [z0] at h; exact h
  have a1 : fl1.all (fun f => Nat.ble f 1) = true := by
    have h : (zkC 214).2.2.all (fun f => Nat.ble f 1) = true := by decide +kernel
    rw [z1] at h; exact h
  have t11 : (zTf 11).1 = "StartedByAYawn" := by decide +kernel
  have t12 : (zTf 12).1 = "StartedByAYawnModel" := by decide +kernel
  refine law_new C (n := 0) (ci := 11) (k := 8) hw0 (by decide) z0 a0 (show decode code 0 = .ok (.new 8, 3) by decide +kernel) (by rw [t11]; exact lb_words.1) (fun H1 w1 => ?_)
  refine lv_dup hx hb (show decode code 3 = .ok (.dup, 1) by decide +kernel) rfl ?_
  refine law_init C (n := 1) (n' := 214) (o := 0) (a := 81) (k := 22) w1 (by decide) (by decide) hl.1 M1 (by decide) (by decide +kernel) (by decide +kernel) (by decide +kernel) (show decode code 4 = .ok (.invokespecial 22, 3) by decide +kernel) lb_words.2.2.1 (Nat.le_of_ble_eq_true rfl) (fun H2 locs2 w2 => ?_)
  refine lv_astore_n (lv' := [(1, .ref (g.1 + 0)), (0, .ref b)]) hx hb (show decode code 7 = .ok (.astore_n 1, 1) by decide +kernel) rfl hl (by decide) rfl (fun ls hl => ?_)
  refine law_new C (n := 214) (ci := 12) (k := 23) w2 (by decide) z1 a1 (show decode code 8 = .ok (.new 23, 3) by decide +kernel) (by rw [t12]; exact lb_words.2.1) (fun H3 w3 => ?_)
  refine lv_dup hx hb (show decode code 11 = .ok (.dup, 1) by decide +kernel) rfl ?_
  refine law_init C (n := 215) (n' := 237) (o := 214) (a := 169) (k := 25) w3 (by decide) (by decide) hl.1 M2 (by decide) (by decide +kernel) (by decide +kernel) (by decide +kernel) (show decode code 12 = .ok (.invokespecial 25, 3) by decide +kernel) lb_words.2.2.2 (Nat.le_of_ble_eq_true rfl) (fun H4 locs4 w4 => ?_)
  refine lv_astore_n (lv' := [(2, .ref (g.1 + 214)), (1, .ref (g.1 + 0)), (0, .ref b)]) hx hb (show decode code 15 = .ok (.astore_n 2, 1) by decide +kernel) rfl hl (by decide) rfl (fun ls hl => ?_)
  refine lv_iconst (v := 1) hx hb (show decode code 16 = .ok (.iconst 1, 1) by decide +kernel) (by decide) ?_
  refine law_newL C w4 (show decode code 17 = .ok (.newarray .long, 2) by decide +kernel) (fun H5 w5 => ?_)
  refine lv_astore_n (lv' := [(3, .ref (g.1 + 237)), (2, .ref (g.1 + 214)), (1, .ref (g.1 + 0)), (0, .ref b)]) hx hb (show decode code 19 = .ok (.astore_n 3, 1) by decide +kernel) rfl hl (by decide) rfl (fun ls hl => ?_)
  refine lv_iconst (v := 0) hx hb (show decode code 20 = .ok (.iconst 0, 1) by decide +kernel) (by decide) ?_
  refine lv_istore (lv' := [(4, .int 0), (3, .ref (g.1 + 237)), (2, .ref (g.1 + 214)), (1, .ref (g.1 + 0)), (0, .ref b)]) hx hb (show decode code 21 = .ok (.istore 4, 2) by decide +kernel) hl (by decide) rfl (fun ls hl => ?_)
  have hC := zszC
  exact law_loop hst C hte 600 0 σB H5 locs4 ls 238 (zsz zkC 238) (Nat.zero_le L) (by omega) ⟨conv_P hok w5.1, w5.2.1⟩ (Inv.zero hgood) (lv_sub hl [4, 3, 2, 1, 0] rfl) (by decide) (by omega)
