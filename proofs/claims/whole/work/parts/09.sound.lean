/-! one step of the small machine is one step of the large one -/
def zPre (D : va_G) (g : zG) (zk : zKd) (al : Bool) (n : Nat) (σ : zS) (U : State) : Prop :=
  g.1 ≤ U.heap.size ∧ va_P D zCl (zWl g zk n σ) U.heap ∧ va_K D zCl (zTy g) U ∧ (∀ q ∈ zML, 3 ≤ q.2.2.2 → va_Nw (.methodLinkNest (zCs q.1) q.2.1 (zY q.2.2.1) "StartedByAYawn") U) ∧ va_AO "StartedByAYawn$Kept" U ∧ (al = true → U.heap.size = g.1 + n ∧ ∀ o, n ≤ o → ∀ i, σ o i = 0)
def zEnd (D : va_G) (g : zG) (zk : zKd) (al : Bool) (n : Nat) (σ : zS) (t : State) : Prop :=
  va_P D zCl (zWl g zk n σ) t.heap ∧ (al = true → t.heap.size = g.1 + n ∧ ∀ o, n ≤ o → ∀ i, σ o i = 0)
def zPost (D : va_G) (g : zG) (zk : zKd) (al : Bool) (mi : Nat) (v : Int32) (n : Nat) (σ : zS) : Array Value → State → Outcome → State → Prop := match (zMi mi).2.2 with
  | none => va_Qv (S := Unit) (fun _ => True) (fun _ t => zEnd D g zk al n σ t) (zA g)
  | some _ => va_Qi (S := Unit) (fun r _ => r = v) (fun _ t => zEnd D g zk al n σ t) (zA g)
def zrm (zk : zKd) (d n n' : Nat) : Room := { frames := d + 1, cells := n' - n, slots := zsz zk n' - zsz zk n, locals := 40 * (d + 1) }
def ZMet (l : Launch) (D : va_G) (g : zG) (zk : zKd) (al : Bool) (d mi : Nat) (as : List Value) (n : Nat) (σ : zS) (v : Int32) (n' : Nat) (σ' : zS) : Prop :=
  Met l (zY mi) (zws mi) (zrm zk d n n') (va_Pc (as.map (zcv g.1)) (zPre D g zk al n σ)) (zPost D g zk al mi v n' σ') (n' - n) (zsz zk n' - zsz zk n) (zA g)
/-- the kinds of what is made: a new object's fields are ints and references, and hold their defaults -/
def zKok (zk : zKd) : Prop := ∀ o ci fl, zk o = (0, ci, fl) → ci < 13 ∧ fl.length = (zTf ci).2.2 ∧ (fl.all (fun f => Nat.ble f 1) = true → ∀ j, j < fl.length → ∀ ty, parseFieldDescriptor ((zTf ci).2.1 j).2.2.1 = some ty → defaultValue ty = if fl.getD j 0 = 0 then .int 0 else .null)
section ZSOUND
variable {p : Program} {l : Launch} {e : Env} {R : Room} {s : State} {m : MethodId} {args : Array Value} {below : List Frame} {meth : Method} {c : Code}
variable {D : va_G} {g : zG} {zk : zKd} {al : Bool} {mi d n0 nE nL : Nat} {Q : State → Prop}
def zRl (D : va_G) (g : zG) (zk : zKd) (al : Bool) (s : State) (nL : Nat) (L st : List Value) (ls : Array Slot) (n : Nat) (σ : zS) (H : Heap) (locs : List Loc) : Prop :=
  va_P D zCl (zWl g zk n σ) H ∧ va_S (zA g) s.heap H locs ∧ zLr g.1 L ls ∧ L.length = nL ∧ (∀ v ∈ st, zc1 v = true) ∧ (al = true → H.size = g.1 + n ∧ ∀ o, n ≤ o → ∀ i, σ o i = 0)
/-- what a continuation owes -/
def zKg (p : Program) (l : Launch) (e : Env) (R : Room) (s : State) (m : MethodId) (args : Array Value) (below : List Frame) (meth : Method) (c : Code) (D : va_G) (g : zG) (zk : zKd) (al : Bool) (n0 nE nL : Nat) (Q : State → Prop) (pc : Nat) (L st : List Value) (n : Nat) (σ : zS) : Prop :=
  n0 ≤ n → n ≤ nE ∧ ∀ H locs ls, zRl D g zk al s nL L st ls n σ H locs → W p l e R s m args below meth c H locs (n - n0) (zsz zk n - zsz zk n0) Q (F0 m pc ls (st.map (zcv g.1)))
/-- what holds in a method's body -/
def zCx (p : Program) (R : Room) (s : State) (m : MethodId) (args : Array Value) (meth : Method) (c : Code) (D : va_G) (g : zG) (zk : zKd) (mi d n0 nE nL : Nat) : Prop :=
  p.tables.exec = Jvm.exec ∧ c.code = zB mi ∧ c.maxLocals = nL ∧ s.vm.findClass (zCs (zMi mi).1) = some m.cls ∧ (∀ w ∈ zbig, w.before args s = true) ∧ meth.name = (zY mi).name ∧ va_K D zCl (zTy g) s ∧ (∀ q ∈ zML, 3 ≤ q.2.2.2 → va_Nw (.methodLinkNest (zCs q.1) q.2.1 (zY q.2.2.1) "StartedByAYawn") s) ∧ va_AO "StartedByAYawn$Kept" s ∧ R = zrm zk d n0 nE ∧ zKok zk ∧ g.1 ≤ s.heap.size ∧ mi < 274
/-- a field read -/
theorem zs_get (cx : zCx p R s m args meth c D g zk mi d n0 nE nL) {k a b nx pc n : Nat} {L st : List Value} {σ : zS} {H : Heap} {locs : List Loc} {ls : Array Slot} (hd : decode (zB mi) pc = .ok (.getfield k, 3)) (hnx : nx = pc + 3) (hl : ((zMi mi).1, k, a, b) ∈ zFL) (hr : zRl D g zk al s nL L st ls n σ H locs) (hn : n0 ≤ n) (h : zGet False (zKg p l e R s m args below meth c D g zk al n0 nE nL Q) zk a b nx L st n σ) : W p l e R s m args below meth c H locs (n - n0) (zsz zk n - zsz zk n0) Q (F0 m pc ls (st.map (zcv g.1))) := by
  obtain ⟨hx, hb, hml, hown, hts, hnm, hK, hnst, hao, hR, hkk, hg0, hmi⟩ := cx
  obtain ⟨hP, hS, hL, hLl, hst, hal⟩ := hr
  subst hnx
  unfold zGet at h
  split at h
  · rename_i o r
    split at h
    rename_i t ci fl hzk
    split at h
    · rename_i f hf
      split at h
      · rename_i hc
        simp only [Bool.and_eq_true, Nat.blt_eq, beq_iff_eq] at hc
        obtain ⟨⟨ho, rfl⟩, rfl⟩ := hc
        obtain ⟨hw, -⟩ := And.intro (zFLc_all _ hl) trivial
        obtain ⟨hcn, hbN, hci⟩ := zFL_ok2 _ hl
        dsimp only at hcn hbN hci
        obtain ⟨ty, hty, hnn, hin, hcl⟩ := zcls hci
        have he : (zWl g zk n σ)[o]? = some (g.1 + o, .inr (ci, zfs g.1 σ o fl)) := by
          rw [zWl_get g zk σ ho]
          simp only [zcell, hzk]
        refine va_get (C := (zTf ci).1) (T := (zTf ci).2.1) (N := (zTf ci).2.2) (ref := zCs ci) hx hb hts hin hown hK hP o he hcl b hbN (hts _ (zbig_t hw rfl)) (fun x hx => ?_) (zfs_get _ _ _ hf) hd ?_
        · have hd2 : ((zTf ci).2.1 b).1 = zCs ci := zFd_ok hci hbN
          rw [hd2] at hx
          exact hx
        · exact (h hn).2 H locs ls ⟨hP, hS, hL, hLl, fun v hv => (List.mem_cons.mp hv).elim (fun q => by rw [q]; exact zFld_c1 _ _ _ _) (fun q => hst v (List.mem_cons_of_mem _ q)), hal⟩
      · exact h.elim
    · exact h.elim
  · exact h.elim
end ZSOUND
