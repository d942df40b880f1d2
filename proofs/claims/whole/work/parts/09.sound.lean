/-! one step of the small machine is one step of the large one -/
def zPre (D : va_G) (g : zG) (zk : zKd) (al : Bool) (n : Nat) (σ : zS) (U : State) : Prop :=
  g.1 ≤ U.heap.size ∧ va_P D zCl (zWl g zk n σ) U.heap ∧ va_K D zCl (zTy g) U ∧ (∀ q ∈ zML, 3 ≤ q.2.2.2 → va_Nw (.methodLinkNest (zCs q.1) q.2.1 (zY q.2.2.1) "StartedByAYawn") U) ∧ va_AO "StartedByAYawn$Kept" U ∧ (al = true → U.heap.size = g.1 + n ∧ ∀ o, n ≤ o → ∀ i, σ o i = 0)
def zEnd (D : va_G) (g : zG) (zk : zKd) (al : Bool) (n : Nat) (σ : zS) (t : State) : Prop :=
  va_P D zCl (zWl g zk n σ) t.heap ∧ (al = true → t.heap.size = g.1 + n ∧ ∀ o, n ≤ o → ∀ i, σ o i = 0)
def zPost (D : va_G) (g : zG) (zk : zKd) (al : Bool) (mi : Nat) (v : Int32) (n : Nat) (σ : zS) : Array Value → State → Outcome → State → Prop := match (zMi mi).2.2 with
  | none => va_Qv (S := Unit) (fun _ => True) (fun _ t => zEnd D g zk al n σ t) (zA g)
  | some _ => va_Qi (S := Unit) (fun r _ => r = v) (fun _ t => zEnd D g zk al n σ t) (zA g)
def zrm (zk : zKd) (d n n' : Nat) : Room := { frames := d + 1, cells := n' - n, slots := zsz zk n' - zsz zk n, locals := 40 * (d + 1) }
def ZMet (l : Launch) (D : va_G) (g : zG) (zk : zKd) (al : Bool) (d mi : Nat) (as : List Value) (n : Nat) (σ : zS) (v : Int32) (n' : Nat) (σ' : zS) : Prop :=
  Met l (zY mi) (zws mi) (zrm zk d n n') (va_Pc (as.map (zcv g.1)) (zPre D g zk al n σ)) (zPost D g zk al mi v n' σ') (n' - n) (zsz zk n' - zsz zk n) (zA g)
/-- the kinds of what is made: a new object's fields are ints and references, and hold their defaults -/
def zKok (zk : zKd) : Prop := ∀ o ci fl, zk o = (0, ci, fl) → ci < 13 ∧ fl.length = (zTf ci).2.2 ∧ (fl.all (fun f => Nat.ble f 1) = true → ∀ j, j < fl.length → ∀ ty, parseFieldDescriptor ((zTf ci).2.1 j).2.2.1 = some ty → defaultValue ty = if fl.getD j 0 = 0 then .int 0 else .null)
section ZROW
variable {p : Program} {l : Launch} {e : Env} {R : Room} {s : State} {m : MethodId} {args : Array Value} {below : List Frame} {meth : Method} {c : Code} {H : Heap} {locs : List Loc} {cells slots : Nat} {Q : State → Prop}
variable {cc : ByteArray} {pc : Nat} {ls : Array Slot} {rest : List Value} {D : va_G} {cl : List vw_C} {A : Nat → Prop} {a : Nat} {tys : List (ClassId × FieldType)} {ws : va_W} {H0 : Heap}
/-! rows that also say that a store makes no cell -/
theorem zput_row (hexec : p.tables.exec = Jvm.exec) (hb : c.code = cc) {own ref C : String} {T : u_T} {N ci index : Nat} {Ts : List Cond} (hts : ∀ w ∈ Ts, w.before args s = true) (hin : ∀ w ∈ u_ws C T N, w ∈ Ts) (ty0 : Nat → FieldType) (hty : ∀ k, k < N → parseFieldDescriptor (T k).2.2.1 = some (ty0 k)) (hnm : ∀ a, a < N → ∀ b, b < N → a ≠ b → (T a).2.1 ≠ (T b).2.1) (hown : s.vm.findClass own = some m.cls) (hK : va_K D cl tys s) (hP : va_P D cl ws H) (hD : va_D A ws) (hS0 : va_S A H0 H locs) (q0 : Nat) {fs : List Value} (he : ws[q0]? = some (a, .inr (ci, fs))) (hc : cl[ci]? = some (C, T, N)) (k : Nat) (hk : k < N) (hlink : (Cond.fieldLink own index ref (T k).2.1 (T k).2.2.1).before args s = true) (hsame : ∀ x, s.fieldFound? (T k).1 (T k).2.1 (T k).2.2.1 = some x → s.fieldFound? ref (T k).2.1 (T k).2.2.1 = some x) (hfin : (T k).2.2.2 = false) {ty : FieldType} {v : Value} (hd : parseFieldDescriptor (T k).2.2.1 = some ty) (hn : narrow ty v = v) (hfit : fits ty v = true) (hl : k < fs.length)
    (hdg : decode cc pc = .ok (.putfield index, 3)) (kk : ∀ (H1 : Heap) (locs1 : List Loc), va_P D cl (ws.set q0 (a, .inr (ci, fs.set k v))) H1 → va_D A (ws.set q0 (a, .inr (ci, fs.set k v))) → va_S A H0 H1 locs1 → H1.size = H.size → W p l e R s m args below meth c H1 locs1 cells slots Q (F0 m (pc + 3) ls rest)) : W p l e R s m args below meth c H locs cells slots Q (F0 m pc ls (v :: .ref a :: rest)) := by
  have hap := va_apart (own := own) hts hin ty0 hty hnm hK hc
  obtain ⟨r, h1, cell, q1, q2, q3, q4⟩ := hP q0 _ he
  have hr : r = (C, T, N) := Option.some.inj (h1.symm.trans hc)
  subst hr
  obtain ⟨hS, hfc, kC, hkC, hkind⟩ := hK.1 ci _ hc
  obtain ⟨cf, kf, fi, f, hi, hsl⟩ := hS k hk
  have hlay := hts _ (hin _ (u_in_lay hk))
  unfold u_lay at hlay
  rw [if_neg (by rw [hfin]; decide)] at hlay
  have hst := (u_facts hfc hkC (u_lays hts hin hk) hi).1
  have h6 := u_store hfc hkC hkind hlay hi hd hn hfit
  refine W.putK hexec hb (f := f) ⟨hown, hlink, ⟨_, _, _, hsame _ hi⟩, hst⟩ (by rw [q2]; exact h6) q1 q3 (by rw [hsl]; exact k2_hasslot (q4 k hk)) rfl rfl hdg fun H' e1 e2 e3 => ?_
  rw [hsl] at e1 ⊢
  exact kk H' _ (hP.set hD he ⟨_, hc, t_OB.to (V := updV (vp_V fs) k v) ⟨_, e1, q2, q3, t_set q4 hap hk v⟩ (fun j _ => vp_updV_set hl v j)⟩ e3) (hD.set he) (hS0.put e2 e3 (hD.2 q0 _ he)) e2
theorem zputF_row (hexec : p.tables.exec = Jvm.exec) (hb : c.code = cc) {own ref C : String} {T : u_T} {N ci index : Nat} {Ts : List Cond} (hts : ∀ w ∈ Ts, w.before args s = true) (hin : ∀ w ∈ u_ws C T N, w ∈ Ts) (ty0 : Nat → FieldType) (hty : ∀ k, k < N → parseFieldDescriptor (T k).2.2.1 = some (ty0 k)) (hnm : ∀ a, a < N → ∀ b, b < N → a ≠ b → (T a).2.1 ≠ (T b).2.1) (hown : s.vm.findClass own = some m.cls) (hK : va_K D cl tys s) (hP : va_P D cl ws H) (hD : va_D A ws) (hS0 : va_S A H0 H locs) (q0 : Nat) {fs : List Value} (he : ws[q0]? = some (a, .inr (ci, fs))) (hc : cl[ci]? = some (C, T, N)) (k : Nat) (hk : k < N) (hlink : (Cond.fieldLink own index ref (T k).2.1 (T k).2.2.1).before args s = true) (hsame : ∀ x, s.fieldFound? (T k).1 (T k).2.1 (T k).2.2.1 = some x → s.fieldFound? ref (T k).2.1 (T k).2.2.1 = some x) (hfin : (T k).2.2.2 = true) (hin2 : meth.name = "<init>") (hdecl : (T k).1 = own) {ty : FieldType} {v : Value} (hd : parseFieldDescriptor (T k).2.2.1 = some ty) (hn : narrow ty v = v) (hfit : fits ty v = true) (hl : k < fs.length)
    (hdg : decode cc pc = .ok (.putfield index, 3)) (kk : ∀ (H1 : Heap) (locs1 : List Loc), va_P D cl (ws.set q0 (a, .inr (ci, fs.set k v))) H1 → va_D A (ws.set q0 (a, .inr (ci, fs.set k v))) → va_S A H0 H1 locs1 → H1.size = H.size → W p l e R s m args below meth c H1 locs1 cells slots Q (F0 m (pc + 3) ls rest)) : W p l e R s m args below meth c H locs cells slots Q (F0 m pc ls (v :: .ref a :: rest)) := by
  have hap := va_apart (own := own) hts hin ty0 hty hnm hK hc
  obtain ⟨r, h1, cell, q1, q2, q3, q4⟩ := hP q0 _ he
  have hr : r = (C, T, N) := Option.some.inj (h1.symm.trans hc)
  subst hr
  obtain ⟨hS, hfc, kC, hkC, hkind⟩ := hK.1 ci _ hc
  obtain ⟨cf, kf, fi, f, hi, hsl⟩ := hS k hk
  have hlay := hts _ (hin _ (u_in_lay hk))
  unfold u_lay at hlay
  rw [if_pos hfin] at hlay
  have hst := (u_facts hfc hkC (u_lays hts hin hk) hi).1
  have hcf : m.cls = cf := by
    obtain ⟨_, _, c', _, _, _, -, -, hf', -, -, -, hown2, -⟩ := Cond.laysFinal_spec hlay
    have e1 : c' = cf := by have := hi.symm.trans hf'; simp at this; exact this.1.symm
    rw [hdecl] at hown2
    rw [← e1]; exact Option.some.inj (hown.symm.trans hown2)
  have h6 := u_fits hfc hkC hkind (Or.inr hlay) hi hd hn hfit
  refine W.putFinK hexec hb hown hlink (hsame _ hi) hst hcf hin2 (by rw [q2]; exact h6) q1 q3 (by rw [hsl]; exact k2_hasslot (q4 k hk)) rfl rfl hdg fun H' e1 e2 e3 => ?_
  rw [hsl] at e1 ⊢
  exact kk H' _ (hP.set hD he ⟨_, hc, t_OB.to (V := updV (vp_V fs) k v) ⟨_, e1, q2, q3, t_set q4 hap hk v⟩ (fun j _ => vp_updV_set hl v j)⟩ e3) (hD.set he) (hS0.put e2 e3 (hD.2 q0 _ he)) e2
theorem zast_row (hexec : p.tables.exec = Jvm.exec) (hb : c.code = cc) (hK : va_K D cl tys s) (hP : va_P D cl ws H) (hD : va_D A ws) (hS : va_S A H0 H locs) (q0 t0 : Nat) {cA : ClassId} {n : Nat} {f : Nat → Int32} (ha : ws[q0]? = some (a, .inl (cA, n, .inl f))) (ht : tys[t0]? = some (cA, .int)) {i : Int32} {x : Int32} (hin : vp_in i n) (hdg : decode cc pc = .ok (.iastore, 1))
    (kk : ∀ (H1 : Heap) (locs1 : List Loc), va_P D cl (ws.set q0 (a, .inl (cA, n, .inl (upd f i.toNatClampNeg x)))) H1 → va_S A H0 H1 locs1 → H1.size = H.size → W p l e R s m args below meth c H1 locs1 cells slots Q (F0 m (pc + 1) ls rest)) : W p l e R s m args below meth c H locs cells slots Q (F0 m pc ls (.int x :: .int i :: .ref a :: rest)) := by
  refine W.iast hexec hb (hP q0 _ ha) ((hK.2 t0 _ ht).1 n (fun j => .int (f j))) (fun q => by cases q) (by show ¬ (i < 0 ∨ (arrV _ _ _).slots.size ≤ _); rw [arrV_size]; exact hin) rfl rfl hdg fun H1 e z oq => ?_
  refine kk H1 _ (hP.set hD ha ?_ oq) (hS.put z oq (hD.2 q0 _ ha)) z
  show H1[a]? = some (vp_cell _ _)
  rw [e]
  rw [vp_cell_i, vp_cell_i, arrV_store]
  congr 2
  funext q
  by_cases hq : q = i.toNatClampNeg
  · subst hq
    simp [updV, upd]
  · simp [updV, upd, hq]
theorem zastq_row (hexec : p.tables.exec = Jvm.exec) (hb : c.code = cc) (hK : va_K D cl tys s) (hP : va_P D cl ws H) (hD : va_D A ws) (hS : va_S A H0 H locs) (q0 t0 qk ci : Nat) {cA : ClassId} {r : vw_C} {n v : Nat} {vs : List Value} {f : Nat → Option Nat} (ha : ws[q0]? = some (a, .inl (cA, n, .inr (.inr (.inr (.inr f)))))) (ht : tys[t0]? = some (cA, .object r.1)) (hv : ws[qk]? = some (v, .inr (ci, vs))) (hc : cl[ci]? = some r) {i : Int32} (hin : vp_in i n) (hdg : decode cc pc = .ok (.aastore, 1))
    (kk : ∀ (H1 : Heap) (locs1 : List Loc), va_P D cl (ws.set q0 (a, .inl (cA, n, .inr (.inr (.inr (.inr (va_up f i.toNatClampNeg (some v)))))))) H1 → va_S A H0 H1 locs1 → H1.size = H.size → W p l e R s m args below meth c H1 locs1 cells slots Q (F0 m (pc + 1) ls rest)) : W p l e R s m args below meth c H locs cells slots Q (F0 m pc ls (.ref v :: .int i :: .ref a :: rest)) := by
  have hlt : i.toNatClampNeg < n := Nat.not_le.mp fun q => hin (Or.inr q)
  have h0 : ¬ i < 0 := fun q => hin (Or.inl q)
  obtain ⟨r', hr', cellV, g1, g2, g3, -⟩ := hP qk _ hv
  have hcls := (hK.1 ci r hc).2
  obtain ⟨kA, comp, k1, k2, k3, -⟩ := (hK.2 t0 _ ht).2
  have hcomp : comp = D.1 ci := Option.some.inj (k3.symm.trans hcls.1)
  subst hcomp
  obtain ⟨kC, hkC, -⟩ := hcls.2
  refine W.aast hexec hb (hP q0 _ ha) (fun q h => by cases h) (fun h => by cases h) k1 k2 rfl hkC ⟨h0, by show _ < (arrV _ _ _).slots.size; rw [arrV_size]; exact hlt⟩ g1 (fun q h => by rw [g3] at h; cases h) (by rw [g2]; exact hkC) (by rw [g2]; exact va_assign hcls) rfl rfl hdg fun H1 e z oq => ?_
  refine kk H1 _ (hP.set hD ha ?_ oq) (hS.put z oq (hD.2 q0 _ ha)) z
  show H1[a]? = some (vp_cell _ _)
  rw [e]
  rw [vp_cell_q, vp_cell_q, arrV_store]
  congr 2
  funext q
  by_cases hq : q = i.toNatClampNeg
  · subst hq
    simp [updV, va_up, va_rf]
  · simp [updV, va_up, hq]
end ZROW
section ZSOUND
variable {p : Program} {l : Launch} {e : Env} {R : Room} {s : State} {m : MethodId} {args : Array Value} {below : List Frame} {meth : Method} {c : Code}
variable {D : va_G} {g : zG} {zk : zKd} {al : Bool} {mi d n0 nE nL : Nat} {Q : State → Prop}
def zRl (D : va_G) (g : zG) (zk : zKd) (al : Bool) (s : State) (nL : Nat) (L st : List Value) (ls : Array Slot) (n : Nat) (σ : zS) (H : Heap) (locs : List Loc) : Prop :=
  va_P D zCl (zWl g zk n σ) H ∧ va_S (zA g) s.heap H locs ∧ zLr g.1 L ls ∧ L.length = nL ∧ (∀ v ∈ st, zc1 v = true) ∧ (al = true → H.size = g.1 + n ∧ ∀ o, n ≤ o → ∀ i, σ o i = 0)
/-- what a continuation owes -/
def zKg (p : Program) (l : Launch) (e : Env) (R : Room) (s : State) (m : MethodId) (args : Array Value) (below : List Frame) (meth : Method) (c : Code) (D : va_G) (g : zG) (zk : zKd) (al : Bool) (n0 nE nL : Nat) (Q : State → Prop) (pc : Nat) (L st : List Value) (n : Nat) (σ : zS) : Prop :=
  n0 ≤ n → n ≤ nE ∧ ∀ H locs ls, zRl D g zk al s nL L st ls n σ H locs → W p l e R s m args below meth c H locs (n - n0) (zsz zk n - zsz zk n0) Q (F0 m pc ls (st.map (zcv g.1)))
/-- what holds in a method's body -/
def zCx (p : Program) (R : Room) (s : State) (m : MethodId) (args : Array Value) (meth : Method) (c : Code) (D : va_G) (g : zG) (zk : zKd) (mi d n0 nE nL : Nat) : Prop :=
  p.tables.exec = Jvm.exec ∧ c.code = zB mi ∧ c.maxLocals = nL ∧ s.vm.findClass (zCs (zMi mi).1) = some m.cls ∧ (∀ w ∈ zbig, w.before args s = true) ∧ meth.name = (zY mi).name ∧ va_K D zCl (zTy g) s ∧ (∀ q ∈ zML, 3 ≤ q.2.2.2 → va_Nw (.methodLinkNest (zCs q.1) q.2.1 (zY q.2.2.1) "StartedByAYawn") s) ∧ va_AO "StartedByAYawn$Kept" s ∧ R = zrm zk d n0 nE ∧ zKok zk ∧ g.1 ≤ s.heap.size ∧ mi < 274
/-- a field read -/
theorem zs_get (cx : zCx p R s m args meth c D g zk mi d n0 nE nL) {k a b nx pc n : Nat} {L st : List Value} {σ : zS} {H : Heap} {locs : List Loc} {ls : Array Slot} (hd : decode (zB mi) pc = .ok (.getfield k, 3)) (hnx : nx = pc + 3) (hl : ((zMi mi).1, k, a, b) ∈ zFL) (hr : zRl D g zk al s nL L st ls n σ H locs) (hn : n0 ≤ n) (h : zGet False (zKg p l e R s m args below meth c D g zk al n0 nE nL Q) zk a b nx L st n σ) : W p l e R s m args below meth c H locs (n - n0) (zsz zk n - zsz zk n0) Q (F0 m pc ls (st.map (zcv g.1))) := by
  obtain ⟨hx, hb, hml, hown, hts, hnm, hK, hnst, hao, hR, hkk, hg0, hmi⟩ := cx
  obtain ⟨hP, hS, hL, hLl, hst, hal⟩ := hr
  subst hnx
  unfold zGet at h
  split at h
  · rename_i o r
    split at h
    rename_i t ci fl hzk
    split at h
    · rename_i f hf
      split at h
      · rename_i hc
        simp only [Bool.and_eq_true, Nat.blt_eq, beq_iff_eq] at hc
        obtain ⟨⟨ho, rfl⟩, rfl⟩ := hc
        obtain ⟨hw, -⟩ := And.intro (zFLc_all _ hl) trivial
        obtain ⟨hcn, hbN, hci⟩ := zFL_ok2 _ hl
        dsimp only at hcn hbN hci
        obtain ⟨ty, hty, hnn, hin, hcl⟩ := zcls hci
        have he : (zWl g zk n σ)[o]? = some (g.1 + o, .inr (ci, zfs g.1 σ o fl)) := by
          rw [zWl_get g zk σ ho]
          simp only [zcell, hzk]
        refine va_get (C := (zTf ci).1) (T := (zTf ci).2.1) (N := (zTf ci).2.2) (ref := zCs ci) hx hb hts hin hown hK hP o he hcl b hbN (hts _ (zbig_t hw rfl)) (fun x hx => ?_) (zfs_get _ _ _ hf) hd ?_
        · have hd2 : ((zTf ci).2.1 b).1 = zCs ci := zFd_ok hci hbN
          rw [hd2] at hx
          exact hx
        · exact (h hn).2 H locs ls ⟨hP, hS, hL, hLl, fun v hv => (List.mem_cons.mp hv).elim (fun q => by rw [q]; exact zFld_c1 _ _ _ _) (fun q => hst v (List.mem_cons_of_mem _ q)), hal⟩
      · exact h.elim
    · exact h.elim
  · exact h.elim
/-- an int or a flag is put into a field -/
theorem zs_putc {k nx pc b n o : Nat} {L r : List Value} {σ : zS} {H : Heap} {locs : List Loc} {ls : Array Slot} {ci : Nat} {fl : List Nat} {f : Nat} {v : Value} {x : Int32} {ty : FieldType} (cx : zCx p R s m args meth c D g zk mi d n0 nE nL) (hd : decode (zB mi) pc = .ok (.putfield k, 3)) (hnx : nx = pc + 3) (hl : ((zMi mi).1, k, ci, b) ∈ zFL)
    (hfin : ((zTf ci).2.1 b).2.2.2 = false ∨ ((zY mi).name = "<init>" ∧ ci = (zMi mi).1 ∧ ((zTf ci).2.1 b).1 = zCs (zMi mi).1)) (hpt : parseFieldDescriptor ((zTf ci).2.1 b).2.2.1 = some ty) (hnr : narrow ty (zcv g.1 v) = zcv g.1 v) (hft : fits ty (zcv g.1 v) = true) (hzk : zk o = (0, ci, fl)) (hf : fl[b]? = some f) (ho : o < n) (hv : zcv g.1 v = zcv g.1 (zFld o b f (zup σ o b x)))
    (hr : zRl D g zk al s nL L (v :: .ref o :: r) ls n σ H locs) (hn : n0 ≤ n) (h : zKg p l e R s m args below meth c D g zk al n0 nE nL Q nx L r n (zup σ o b x)) : W p l e R s m args below meth c H locs (n - n0) (zsz zk n - zsz zk n0) Q (F0 m pc ls ((v :: .ref o :: r).map (zcv g.1))) := by
  obtain ⟨hx, hb, hml, hown, hts, hnm, hK, hnst, hao, hR, hkk, hg0, hmi⟩ := cx
  obtain ⟨hP, hS, hL, hLl, hst, hal⟩ := hr
  subst hnx
  have hw := zFLc_all _ hl
  obtain ⟨hcn, hbN, hci⟩ := zFL_ok2 _ hl
  dsimp only at hcn hbN hci
  obtain ⟨ty0, hty, hnn, hin, hcl⟩ := zcls hci
  have hd2 : ((zTf ci).2.1 b).1 = zCs ci := zFd_ok hci hbN
  have he : (zWl g zk n σ)[o]? = some (g.1 + o, .inr (ci, zfs g.1 σ o fl)) := by
    rw [zWl_get g zk σ ho]
    simp only [zcell, hzk]
  have hlen : b < (zfs g.1 σ o fl).length := by
    rw [zfs_len]; exact (List.getElem?_eq_some_iff.mp hf).1
  have hset : (zWl g zk n σ).set o (g.1 + o, .inr (ci, (zfs g.1 σ o fl).set b (zcv g.1 v))) = zWl g zk n (zup σ o b x) := by
    refine zWl_set g zk σ ho _ ?_
    show _ = zcell g zk (zup σ o b x) o
    simp only [zcell, hzk]
    rw [hv, zfs_put _ _ _ _ hf]
  have kk : ∀ (H1 : Heap) (locs1 : List Loc), va_P D zCl ((zWl g zk n σ).set o (g.1 + o, .inr (ci, (zfs g.1 σ o fl).set b (zcv g.1 v)))) H1 → va_D (zA g) ((zWl g zk n σ).set o (g.1 + o, .inr (ci, (zfs g.1 σ o fl).set b (zcv g.1 v)))) → va_S (zA g) s.heap H1 locs1 → H1.size = H.size → W p l e R s m args below meth c H1 locs1 (n - n0) (zsz zk n - zsz zk n0) Q (F0 m (pc + 3) ls (r.map (zcv g.1))) := by
    intro H1 locs1 hP1 _ hS1 hz
    rw [hset] at hP1
    refine (h hn).2 H1 locs1 ls ⟨hP1, hS1, hL, hLl, fun w hw => hst w (List.mem_cons_of_mem _ (List.mem_cons_of_mem _ hw)), fun ha => ?_⟩
    obtain ⟨h1, h2⟩ := hal ha
    refine ⟨by rw [hz]; exact h1, fun q hq i => ?_⟩
    rw [zup, zput_ne _ (by omega)]
    exact h2 q hq i
  have hsame : ∀ x, s.fieldFound? ((zTf ci).2.1 b).1 ((zTf ci).2.1 b).2.1 ((zTf ci).2.1 b).2.2.1 = some x → s.fieldFound? (zCs ci) ((zTf ci).2.1 b).2.1 ((zTf ci).2.1 b).2.2.1 = some x := fun x hx => by
    rw [hd2] at hx
    exact hx
  by_cases hff : ((zTf ci).2.1 b).2.2.2 = false
  · refine zput_row (C := (zTf ci).1) (T := (zTf ci).2.1) (N := (zTf ci).2.2) (ref := zCs ci) hx hb hts hin ty0 hty hnn hown hK hP (zWl_D g zk n σ) hS o he hcl b hbN (hts _ (zbig_t hw rfl)) hsame hff hpt hnr hft hlen hd kk
  · obtain hq | ⟨q1, q2, q3⟩ := hfin
    · exact absurd hq hff
    · refine zputF_row (C := (zTf ci).1) (T := (zTf ci).2.1) (N := (zTf ci).2.2) (ref := zCs ci) hx hb hts hin ty0 hty hnn hown hK hP (zWl_D g zk n σ) hS o he hcl b hbN (hts _ (zbig_t hw rfl)) hsame (by cases hq : ((zTf ci).2.1 b).2.2.2 with
        | true => rfl
        | false => exact absurd hq hff) (by rw [hnm]; exact q1) q3 hpt hnr hft hlen hd kk
end ZSOUND
