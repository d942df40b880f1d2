/-! calls: by the callee's contract, which is the run's own -/
section ZSOUND4
variable {p : Program} {l : Launch} {e : Env} {R : Room} {s : State} {m : MethodId} {args : Array Value} {below : List Frame} {meth : Method} {c : Code}
variable {D : va_G} {g : zG} {zk : zKd} {al : Bool} {mi d n0 nE nL : Nat} {Q : State → Prop}
variable {a nx pc b f n : Nat} {L st r : List Value} {σ : zS} {H : Heap} {locs : List Loc} {ls : Array Slot}
def zCg (l : Launch) (D : va_G) (g : zG) (zk : zKd) (al : Bool) (d : Nat) (mi : Nat) (as : List Value) (n : Nat) (σ : zS) (kk : Int32 → Nat → zS → Prop) : Prop :=
  0 < d ∧ ∃ v n' σ', n ≤ n' ∧ ((∀ w ∈ as, zc1 w = true) → as.length ≤ (zMi mi).2.1 → mi < 274 → ZMet l D g zk al (d - 1) mi as n σ v n' σ') ∧ kk v n' σ'
theorem zs_blind {as : List Value} : FrameBlind (va_Pc as (zPre D g zk al n σ)) := fun a U gf mk q => by
  obtain ⟨q0, q1, q2, q3, q4, q5, q6⟩ := q
  exact ⟨q0, q1, q2, va_K.moved (u := U) (U := U.calling gf mk a) (Vm.Alike.refl U.vm) q3, fun x hx h3 => va_Nw.same rfl rfl (q4 x hx h3), va_AO.moved (u := U) (U := U.calling gf mk a) (Vm.Alike.refl U.vm) q5, q6⟩
theorem zs_sum (b : Nat) : ∀ (r : List Value), (∀ w ∈ r, zc1 w = true) → ((r.map (zcv b)).map fun v => v.category).sum = r.length := by
  intro r hr
  induction r with
  | nil => rfl
  | cons v r ih =>
    have h3 := zc1_cat (b := b) (hr v List.mem_cons_self)
    simp only [List.map_cons, List.sum_cons, List.length_cons, h3, ih (zs_c1_tail hr)]
    omega
/-- behind the call -/
theorem zs_after {v : Int32} {n' : Nat} {σ' : zS} {mi2 : Nat} {stk : List Value} {ar : Array Value} (hS : va_S (zA g) s.heap H locs) (hL : zLr g.1 L ls) (hLl : L.length = nL) (hst : ∀ w ∈ st, zc1 w = true) (hf : f = 2 * (zMi mi2).1 + (if (zMi mi2).2.2 = none then 1 else 0)) (hn : n0 ≤ n) (hnn : n ≤ n')
    (hrun : va_Run p l e R s m args below meth c H locs (n - n0) (zsz zk n - zsz zk n0) (n' - n) (zsz zk n' - zsz zk n) (F0 m pc ls stk) ((st.drop b).map (zcv g.1)) (zPost D g zk al mi2 v n' σ' ar) (zA g))
    (h : zKg p l e R s m args below meth c D g zk al n0 nE nL Q (pc + 3) L (if f % 2 = 1 then st.drop b else .int v :: st.drop b) n' σ') : W p l e R s m args below meth c H locs (n - n0) (zsz zk n - zsz zk n0) Q (F0 m pc ls stk) := by
  have hm1 := zsz_mono zk hn
  have hm2 := zsz_mono zk hnn
  have e2 : n - n0 + (n' - n) = n' - n0 := by omega
  have e3 : zsz zk n - zsz zk n0 + (zsz zk n' - zsz zk n) = zsz zk n' - zsz zk n0 := by omega
  have hdr : ∀ w ∈ st.drop b, zc1 w = true := fun w hw => hst w (List.mem_of_mem_drop hw)
  unfold zPost at hrun
  cases hret : (zMi mi2).2.2 with
  | none =>
    rw [hret] at hrun hf
    have hf1 : f % 2 = 1 := by rw [hf, if_pos rfl]; omega
    rw [if_pos hf1] at h
    refine va_callv hrun hS (fun q _ h => h) (fun q h => h) fun u t H1 locs1 ht _ _ hB _ _ hS1 => ?_
    rw [e2, e3]
    obtain ⟨hP1, ha1⟩ := hB
    rw [ht] at hP1 ha1
    exact (h (by omega)).2 H1 locs1 ls ⟨hP1, hS1, hL, hLl, hdr, ha1⟩
  | some ty =>
    rw [hret] at hrun hf
    have hf1 : ¬ f % 2 = 1 := by rw [hf]; simp
    rw [if_neg hf1] at h
    refine va_calli hrun hS (fun q _ h => h) (fun q h => h) fun r u t H1 locs1 ht _ hv hB _ _ hS1 => ?_
    rw [e2, e3]
    obtain ⟨hP1, ha1⟩ := hB
    rw [ht] at hP1 ha1
    have hv : r = v := hv
    subst hv
    exact (h (by omega)).2 H1 locs1 ls ⟨hP1, hS1, hL, hLl, zs_c1_cons rfl hdr, ha1⟩
theorem zs_good (mi2 : Nat) (h : mi2 < 274) : ∀ w ∈ zws mi2, w ∈ zbig ∧ ((w.onTables && w.keeps) = true ∨ ∃ ty, w = .arrayClass ty) := by
  intro w hw
  have h1 : w ∈ zbig := by
    rcases List.mem_cons.mp hw with q | q
    · rw [q]; exact zbig_t (zMc_all mi2 (List.mem_range.mpr h)) rfl
    · exact q
  exact ⟨h1, good_of_word (zbig_good h1)⟩
theorem zs_init (hts : ∀ w ∈ zbig, w.before args s = true) {mi2 : Nat} (h : mi2 < 274) : (Cond.initialized (zY mi2).cls).before args s = true := by
  obtain ⟨-, h2, -, -, h3⟩ := zMok_all mi2 (List.mem_range.mpr h)
  rw [h2]
  exact hts _ (zbig_t (zInit_all _ h3) rfl)
theorem zs_params {mi2 k : Nat} (h : zNa mi2 = k) : ∀ sig, parseMethodDescriptor (zY mi2).desc = some sig → k = sig.parameters.length := by
  intro sig hs
  rw [← h]
  unfold zNa
  rw [hs]
  rfl
theorem zs_pre (hP : va_P D zCl (zWl g zk n σ) H) (hK : va_K D zCl (zTy g) s) (hnst : ∀ q ∈ zML, 3 ≤ q.2.2.2 → va_Nw (.methodLinkNest (zCs q.1) q.2.1 (zY q.2.2.1) "StartedByAYawn") s) (hao : va_AO "StartedByAYawn$Kept" s) (hal : al = true → H.size = g.1 + n ∧ ∀ o, n ≤ o → ∀ i, σ o i = 0) (hg : g.1 ≤ H.size) : ∀ U : State, U.heap = H → s.WarmedH U.vm → zPre D g zk al n σ U := by
  intro U hU hW
  refine ⟨by rw [hU]; exact hg, by rw [hU]; exact hP, va_K.moved hW.alike hK, fun q hq h3 => va_Nw.warmM hW (hnst q hq h3), va_AO.moved hW.alike hao, by rw [hU]; exact hal⟩
theorem zs_static {k : Nat} (cx : zCx p R s m args meth c D g zk mi d n0 nE nL) (hd : decode (zB mi) pc = .ok (.invokestatic k, 3)) (hnx : nx = pc + 3) {kd : Nat} (hl : ((zMi mi).1, k, a, kd) ∈ zML) (hkd : kd = 0 ∨ kd = 3) (hst9 : a ∈ zSt) (hb9 : zNa a = b) (hf : f = 2 * (zMi a).1 + (if (zMi a).2.2 = none then 1 else 0)) (hbm : b ≤ (zMi a).2.1) (hr : zRl D g zk al s nL L st ls n σ H locs) (hn : n0 ≤ n) (h : zGo False (zKg p l e R s m args below meth c D g zk al n0 nE nL Q) (zCg l D g zk al d) a b f nx L st n σ) : W p l e R s m args below meth c H locs (n - n0) (zsz zk n - zsz zk n0) Q (F0 m pc ls (st.map (zcv g.1))) := by
  obtain ⟨hx, hb, hml, hown, hts, hnm, hK, hnst, hao, hR, hkk, hg0, hmi⟩ := cx
  obtain ⟨hP, hS, hL, hLl, hst, hal⟩ := hr
  subst hnx
  unfold zGo at h
  split at h
  · rename_i hc
    simp only [Bool.and_eq_true, Nat.ble_eq] at hc
    obtain ⟨hc1, hc2⟩ := hc
    obtain ⟨hd0, v, n', σ', hnn, hM, h⟩ := h
    have ha := zML_ok2 _ hl
    dsimp only at ha
    have hlen : (st.take b).reverse.length = b := by simp; omega
    have hM := hM (fun w hw => hst w (List.mem_of_mem_take (List.mem_reverse.mp hw))) (by omega) ha
    have hnE := (h (by omega)).1
    have hm1 := zsz_mono zk hn
    have hm2 := zsz_mono zk hnn
    have hm3 := zsz_mono zk hnE
    obtain ⟨-, -, hy1, hy2, -⟩ := zMok_all a (List.mem_range.mpr ha)
    have hmx := zMl_ok a (List.mem_range.mpr ha)
    have hRf : (zrm zk (d - 1) n n').frames + 1 ≤ R.frames := by rw [hR]; show d - 1 + 1 + 1 ≤ d + 1; omega
    have hRl : 8 + ((zMi a).2.1 + 11) + (zrm zk (d - 1) n n').locals ≤ R.locals := by rw [hR]; show 8 + ((zMi a).2.1 + 11) + 40 * (d - 1 + 1) ≤ 40 * (d + 1); omega
    have hws := pay_in hts (zs_good a ha)
    have hcode : (Cond.code (zY a) (zB a) (zMi a).2.1 (zMi a).2.2).before args s = true := hts _ (zbig_t (zMc_all a (List.mem_range.mpr ha)) rfl)
    have hwl := zMLc_all _ hl
    have hstat : (Cond.static (zY a)).before args s = true := hts _ (zbig_t (zStc_all a hst9) rfl)
    have hsize : ls.size = nL := by obtain ⟨lv, q, -⟩ := hL; rw [q.1, hLl]
    have hstack : st.map (zcv g.1) = ((st.take b).reverse.map (zcv g.1)).reverse ++ (st.drop b).map (zcv g.1) := by
      rw [List.map_reverse, List.reverse_reverse, ← List.map_append, List.take_append_drop]
    have hroom : 2 * (F0 m pc ls (st.map (zcv g.1))).monitorRoom + (((st.drop b).map (zcv g.1)).map fun v => v.category).sum ≤ 8 := by
      refine lv_room ?_
      rw [zs_sum g.1 _ (fun w hw => hst w (List.mem_of_mem_drop hw)), List.length_drop]
      omega
    have hp : PreS s H (va_Pc ((st.take b).reverse.map (zcv g.1)) (zPre D g zk al n σ)) ((st.take b).reverse.map (zcv g.1)) := ⟨zs_blind, fun U hU hW => ⟨rfl, zs_pre hP hK hnst hao hal (Nat.le_trans hg0 hS.1) U hU hW⟩⟩
    refine zs_after (ar := ((st.take b).reverse.map (zcv g.1)).toArray) (mi2 := a) (v := v) (n' := n') (σ' := σ') hS hL hLl hst hf hn hnn ?_ h
    rcases hkd with rfl | rfl
    · exact va_runS ⟨hx, hb, hml, hown, hts⟩ hM ⟨⟨rfl, rfl, hRf, hRl, hws, List.mem_cons_self, hcode, zs_init hts ha, ⟨hy1, hy2⟩, zs_params hb9, hts _ (zbig_t hwl rfl)⟩, hstat⟩ hp rfl (by rw [List.length_map]; exact hlen) hsize hstack hroom hd ⟨by rw [hR]; show n - n0 + (n' - n) ≤ nE - n0; omega, by rw [hR]; show _ ≤ zsz zk nE - zsz zk n0; omega⟩
    · have hnl : (Cond.methodLinkNest (zCs (zMi mi).1) k (zY a) "StartedByAYawn").before args s = true := va_Nw.use (w := .methodLinkNest (zCs (zMi mi).1) k (zY a) "StartedByAYawn") rfl (hnst ((zMi mi).1, k, a, 3) hl (Nat.le_refl 3))
      exact va_runSN (host := "StartedByAYawn") ⟨hx, hb, hml, hown, hts⟩ hM ⟨⟨⟨rfl, rfl, hRf, hRl, hws, List.mem_cons_self⟩, hcode, zs_init hts ha, ⟨hy1, hy2⟩, zs_params hb9, hnl⟩, hstat, trivial⟩ hp rfl (by rw [List.length_map]; exact hlen) hsize hstack hroom hd ⟨by rw [hR]; show n - n0 + (n' - n) ≤ nE - n0; omega, by rw [hR]; show _ ≤ zsz zk nE - zsz zk n0; omega⟩
  · exact h.elim
theorem zs_head {st : List Value} {b : Nat} {v : Value} (hb : 1 ≤ b) (h : st[b - 1]? = some v) : (st.take b).reverse = v :: (st.take (b - 1)).reverse := by
  have h1 : st.take b = st.take (b - 1) ++ [v] := by
    have h2 : b = b - 1 + 1 := by omega
    rw [h2, List.take_add_one, show b - 1 + 1 - 1 = b - 1 by omega, h]
    rfl
  rw [h1, List.reverse_append]
  rfl
theorem zs_virt {k : Nat} (cx : zCx p R s m args meth c D g zk mi d n0 nE nL) (hd : decode (zB mi) pc = .ok (.invokevirtual k, 3)) (hnx : nx = pc + 3) (hl : ((zMi mi).1, k, a, 1) ∈ zML) (hvi : a ∈ zVi) (hb9 : zNa a + 1 = b) (hf : f = 2 * (zMi a).1 + (if (zMi a).2.2 = none then 1 else 0)) (hbm : b ≤ (zMi a).2.1) (hr : zRl D g zk al s nL L st ls n σ H locs) (hn : n0 ≤ n) (h : zVirt False (zKg p l e R s m args below meth c D g zk al n0 nE nL Q) (zCg l D g zk al d) zk a b f nx L st n σ) : W p l e R s m args below meth c H locs (n - n0) (zsz zk n - zsz zk n0) Q (F0 m pc ls (st.map (zcv g.1))) := by
  obtain ⟨hx, hb, hml, hown, hts, hnm, hK, hnst, hao, hR, hkk, hg0, hmi⟩ := cx
  obtain ⟨hP, hS, hL, hLl, hst, hal⟩ := hr
  subst hnx
  unfold zVirt at h
  split at h
  · rename_i o hso
    split at h
    rename_i t ci fl hzk
    split at h
    · rename_i hc0
      simp only [Bool.and_eq_true, Nat.blt_eq, beq_iff_eq] at hc0
      obtain ⟨⟨ho, rfl⟩, hci⟩ := hc0
      have hcf : ci = (zMi a).1 := by rw [hci, hf]; split <;> omega
      unfold zGo at h
      split at h
      · rename_i hc
        simp only [Bool.and_eq_true, Nat.ble_eq] at hc
        obtain ⟨hc1, hc2⟩ := hc
        obtain ⟨hd0, v, n', σ', hnn, hM, h⟩ := h
        have ha := zML_ok2 _ hl
        dsimp only at ha
        have hlen : (st.take b).reverse.length = b := by simp; omega
        have hM := hM (fun w hw => hst w (List.mem_of_mem_take (List.mem_reverse.mp hw))) (by omega) ha
        have hnE := (h (by omega)).1
        have hm1 := zsz_mono zk hn
        have hm2 := zsz_mono zk hnn
        have hm3 := zsz_mono zk hnE
        obtain ⟨-, hyc, hy1, hy2, -⟩ := zMok_all a (List.mem_range.mpr ha)
        have hmx := zMl_ok a (List.mem_range.mpr ha)
        have hRf : (zrm zk (d - 1) n n').frames + 1 ≤ R.frames := by rw [hR]; show d - 1 + 1 + 1 ≤ d + 1; omega
        have hRl : 8 + ((zMi a).2.1 + 11) + (zrm zk (d - 1) n n').locals ≤ R.locals := by rw [hR]; show 8 + ((zMi a).2.1 + 11) + 40 * (d - 1 + 1) ≤ 40 * (d + 1); omega
        have hws := pay_in hts (zs_good a ha)
        have hcode : (Cond.code (zY a) (zB a) (zMi a).2.1 (zMi a).2.2).before args s = true := hts _ (zbig_t (zMc_all a (List.mem_range.mpr ha)) rfl)
        have hwl := zMLc_all _ hl
        have hsize : ls.size = nL := by obtain ⟨lv, q, -⟩ := hL; rw [q.1, hLl]
        have hhead := zs_head (by omega) hso
        have hstack : st.map (zcv g.1) = ((st.take (b - 1)).reverse.map (zcv g.1)).reverse ++ .ref (g.1 + o) :: (st.drop b).map (zcv g.1) := by
          have h1 : st = st.take b ++ st.drop b := (List.take_append_drop b st).symm
          have h2 : st.take b = st.take (b - 1) ++ [.ref o] := by
            have h3 := congrArg List.reverse hhead
            rw [List.reverse_reverse, List.reverse_cons, List.reverse_reverse] at h3
            exact h3
          conv => lhs; rw [h1, h2]
          rw [List.map_reverse, List.reverse_reverse, List.map_append, List.map_append, List.append_assoc]
          rfl
        have hroom : 2 * (F0 m pc ls (st.map (zcv g.1))).monitorRoom + (((st.drop b).map (zcv g.1)).map fun v => v.category).sum ≤ 8 := by
          refine lv_room ?_
          rw [zs_sum g.1 _ (fun w hw => hst w (List.mem_of_mem_drop hw)), List.length_drop]
          omega
        have hcl13 : ci < 13 := (hkk o ci fl hzk).1
        obtain ⟨-, -, -, -, hcl⟩ := zcls hcl13
        have he : (zWl g zk n σ)[o]? = some (g.1 + o, .inr (ci, zfs g.1 σ o fl)) := by
          rw [zWl_get g zk σ ho]
          simp only [zcell, hzk]
        have hrecv := va_recv hK hP hcl he
        have hCn : (zTf ci).1 = (zY a).cls := by rw [zTn_ok ci hcl13, hyc, hcf]
        rw [hCn] at hrecv
        rw [hhead] at hM
        have hp : PreV s H (zY a).cls (g.1 + o) (va_Pc ((Value.ref o :: (st.take (b - 1)).reverse).map (zcv g.1)) (zPre D g zk al n σ)) ((st.take (b - 1)).reverse.map (zcv g.1)) := ⟨zs_blind, hrecv, fun U hU hW => ⟨rfl, zs_pre hP hK hnst hao hal (Nat.le_trans hg0 hS.1) U hU hW⟩⟩
        refine zs_after (ar := (Value.ref (g.1 + o) :: (st.take (b - 1)).reverse.map (zcv g.1)).toArray) (mi2 := a) (v := v) (n' := n') (σ' := σ') hS hL hLl hst hf hn hnn ?_ h
        exact va_runV ⟨hx, hb, hml, hown, hts⟩ hM ⟨⟨rfl, rfl, hRf, hRl, hws, List.mem_cons_self, hcode, zs_init hts ha, ⟨hy1, hy2⟩, zs_params (k := b - 1) (by omega), hts _ (zbig_t hwl rfl)⟩, hts _ (zbig_t (zVic_all a hvi) rfl), hts _ (zbig_l (zVis_all a hvi) rfl)⟩ hp rfl (by rw [List.length_map, List.length_reverse, List.length_take]; omega) hsize hstack hroom hd ⟨by rw [hR]; show n - n0 + (n' - n) ≤ nE - n0; omega, by rw [hR]; show _ ≤ zsz zk nE - zsz zk n0; omega⟩
      · exact h.elim
    · exact h.elim
  · exact h.elim
theorem zs_spec {k : Nat} (cx : zCx p R s m args meth c D g zk mi d n0 nE nL) (hd : decode (zB mi) pc = .ok (.invokespecial k, 3)) (hnx : nx = pc + 3) {kd : Nat} (hl : ((zMi mi).1, k, a, kd) ∈ zML) (hkd : kd = 2 ∨ kd = 4) (hin9 : a ∈ zIn) (hb9 : zNa a + 1 = b) (hf : f = 2 * (zMi a).1 + 1) (hrt : (zMi a).2.2 = none) (hbm : b ≤ (zMi a).2.1) (hr : zRl D g zk al s nL L st ls n σ H locs) (hn : n0 ≤ n) (h : zSpec False (zKg p l e R s m args below meth c D g zk al n0 nE nL Q) (zCg l D g zk al d) a b f nx L st n σ) : W p l e R s m args below meth c H locs (n - n0) (zsz zk n - zsz zk n0) Q (F0 m pc ls (st.map (zcv g.1))) := by
  obtain ⟨hx, hb, hml, hown, hts, hnm, hK, hnst, hao, hR, hkk, hg0, hmi⟩ := cx
  obtain ⟨hP, hS, hL, hLl, hst, hal⟩ := hr
  subst hnx
  unfold zSpec at h
  split at h
  · rename_i o hso
    split at h
    · unfold zGo at h
      split at h
      · rename_i hc
        simp only [Bool.and_eq_true, Nat.ble_eq] at hc
        obtain ⟨hc1, hc2⟩ := hc
        obtain ⟨hd0, v, n', σ', hnn, hM, h⟩ := h
        have ha := zML_ok2 _ hl
        dsimp only at ha
        have hlen : (st.take b).reverse.length = b := by simp; omega
        have hM := hM (fun w hw => hst w (List.mem_of_mem_take (List.mem_reverse.mp hw))) (by omega) ha
        have hnE := (h (by omega)).1
        have hm1 := zsz_mono zk hn
        have hm2 := zsz_mono zk hnn
        have hm3 := zsz_mono zk hnE
        obtain ⟨-, hyc, hy1, hy2, -⟩ := zMok_all a (List.mem_range.mpr ha)
        have hmx := zMl_ok a (List.mem_range.mpr ha)
        have hRf : (zrm zk (d - 1) n n').frames + 1 ≤ R.frames := by rw [hR]; show d - 1 + 1 + 1 ≤ d + 1; omega
        have hRl : 8 + ((zMi a).2.1 + 11) + (zrm zk (d - 1) n n').locals ≤ R.locals := by rw [hR]; show 8 + ((zMi a).2.1 + 11) + 40 * (d - 1 + 1) ≤ 40 * (d + 1); omega
        have hws := pay_in hts (zs_good a ha)
        have hcode : (Cond.code (zY a) (zB a) (zMi a).2.1 none).before args s = true := by rw [← hrt]; exact hts _ (zbig_t (zMc_all a (List.mem_range.mpr ha)) rfl)
        have hwl := zMLc_all _ hl
        have hsize : ls.size = nL := by obtain ⟨lv, q, -⟩ := hL; rw [q.1, hLl]
        have hhead := zs_head (by omega) hso
        have hstack : st.map (zcv g.1) = ((st.take (b - 1)).reverse.map (zcv g.1)).reverse ++ .ref (g.1 + o) :: (st.drop b).map (zcv g.1) := by
          have h1 : st = st.take b ++ st.drop b := (List.take_append_drop b st).symm
          have h2 : st.take b = st.take (b - 1) ++ [.ref o] := by
            have h3 := congrArg List.reverse hhead
            rw [List.reverse_reverse, List.reverse_cons, List.reverse_reverse] at h3
            exact h3
          conv => lhs; rw [h1, h2]
          rw [List.map_reverse, List.reverse_reverse, List.map_append, List.map_append, List.append_assoc]
          rfl
        have hroom : 2 * (F0 m pc ls (st.map (zcv g.1))).monitorRoom + (((st.drop b).map (zcv g.1)).map fun v => v.category).sum ≤ 8 := by
          refine lv_room ?_
          rw [zs_sum g.1 _ (fun w hw => hst w (List.mem_of_mem_drop hw)), List.length_drop]
          omega
        rw [hhead] at hM
        have hp : PreS s H (va_Pc ((Value.ref o :: (st.take (b - 1)).reverse).map (zcv g.1)) (zPre D g zk al n σ)) (.ref (g.1 + o) :: (st.take (b - 1)).reverse.map (zcv g.1)) := ⟨zs_blind, fun U hU hW => ⟨rfl, zs_pre hP hK hnst hao hal (Nat.le_trans hg0 hS.1) U hU hW⟩⟩
        have hcw : Cond.code (zY a) (zB a) (zMi a).2.1 none ∈ zws a := by rw [← hrt]; exact List.mem_cons_self
        refine zs_after (ar := (Value.ref (g.1 + o) :: (st.take (b - 1)).reverse.map (zcv g.1)).toArray) (mi2 := a) (v := v) (n' := n') (σ' := σ') hS hL hLl hst (by rw [hf, hrt]; rfl) hn hnn ?_ h
        rcases hkd with rfl | rfl
        · exact va_runI ⟨hx, hb, hml, hown, hts⟩ hM ⟨⟨rfl, rfl, hRf, hRl, hws, hcw, hcode, zs_init hts ha, ⟨hy1, hy2⟩, zs_params (k := b - 1) (by omega), hts _ (zbig_t hwl rfl)⟩, zIn_ok2 a hin9, hts _ (zbig_t (zInc__all a hin9) rfl)⟩ hp rfl (by rw [List.length_map, List.length_reverse, List.length_take]; omega) hsize hstack hroom hd ⟨by rw [hR]; show n - n0 + (n' - n) ≤ nE - n0; omega, by rw [hR]; show _ ≤ zsz zk nE - zsz zk n0; omega⟩
        · have hnl : (Cond.methodLinkNest (zCs (zMi mi).1) k (zY a) "StartedByAYawn").before args s = true := va_Nw.use (w := .methodLinkNest (zCs (zMi mi).1) k (zY a) "StartedByAYawn") rfl (hnst ((zMi mi).1, k, a, 4) hl (Nat.le_succ 3))
          exact va_runIN (host := "StartedByAYawn") ⟨hx, hb, hml, hown, hts⟩ hM ⟨⟨⟨rfl, rfl, hRf, hRl, hws, hcw⟩, hcode, zs_init hts ha, ⟨hy1, hy2⟩, zs_params (k := b - 1) (by omega), hnl⟩, zIn_ok2 a hin9, hts _ (zbig_t (zInc__all a hin9) rfl)⟩ hp rfl (by rw [List.length_map, List.length_reverse, List.length_take]; omega) hsize hstack hroom hd ⟨by rw [hR]; show n - n0 + (n' - n) ≤ nE - n0; omega, by rw [hR]; show _ ≤ zsz zk nE - zsz zk n0; omega⟩
      · exact h.elim
    · exact h.elim
  · exact h.elim
end ZSOUND4
