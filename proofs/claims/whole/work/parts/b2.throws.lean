/-! what a throw stands on, from call to call -/
def TE (g : zG) (U : State) : Prop := (∃ a, vk_R "StartedByAYawn" 150 "no such FACE, or nothing such is told of it" a U) ∧ (∃ a, vk_R "StartedByAYawn" 300 "THE BOOK has no such yawn, or tells nothing such of it" a U) ∧ (∃ a, vk_R "StartedByAYawn" 446 "the ROW has no such number" a U) ∧ vx_Zq Bundle.tN "UNASSIGNED_STACK" Bundle.steD (zA g) U U.heap ∧ vx_Zq Bundle.tN "SUPPRESSED_SENTINEL" Bundle.listD (zA g) U U.heap ∧ ∀ w ∈ (nsAt "StartedByAYawn" 152).filter (fun w => !goodWord w), va_Nw w U
theorem nsBad_warm {s U : State} (hW : s.WarmedH U.vm) {w : Cond} (hw : w ∈ (nsAt "StartedByAYawn" 152).filter (fun w => !goodWord w)) (h : va_Nw w s) : va_Nw w U := by
  rw [nsBad_eq] at hw
  simp only [List.mem_cons, List.not_mem_nil, or_false] at hw
  rcases hw with rfl | rfl | rfl | rfl
  · exact va_Nw.warmD hW h
  · exact va_Nw.warmD hW h
  · exact va_Nw.warmD hW h
  · exact va_Nw.warmC hW h
theorem nsBad_same {u U : State} (hv : u.vm = U.vm) {w : Cond} (hw : w ∈ (nsAt "StartedByAYawn" 152).filter (fun w => !goodWord w)) (h : va_Nw w u) : va_Nw w U := by
  rw [nsBad_eq] at hw
  simp only [List.mem_cons, List.not_mem_nil, or_false] at hw
  rcases hw with rfl | rfl | rfl | rfl <;> exact va_Nw.same rfl hv h
theorem TE.warm {g : zG} {s U : State} {H : Heap} {locs : List Loc} (h : TE g s) (hW : s.WarmedH U.vm) (hU : U.heap = H) (hS : va_S (zA g) s.heap H locs) : TE g U := by
  obtain ⟨⟨a1, h1⟩, ⟨a2, h2⟩, ⟨a3, h3⟩, h4, h5, h6⟩ := h
  refine ⟨⟨a1, vk_R.warm hW h1⟩, ⟨a2, vk_R.warm hW h2⟩, ⟨a3, vk_R.warm hW h3⟩, ?_, ?_, fun w hw => nsBad_warm hW hw (h6 w hw)⟩
  · rw [hU]; exact vx_Zq.moved hW.alike (h4.kept hS.2.1)
  · rw [hU]; exact vx_Zq.moved hW.alike (h5.kept hS.2.1)
theorem TE.calling {g : zG} {U : State} {gf : JFrame} {mk : MethodId} {a : Array Value} (h : TE g U) : TE g (U.calling gf mk a) := by
  obtain ⟨⟨a1, h1⟩, ⟨a2, h2⟩, ⟨a3, h3⟩, h4, h5, h6⟩ := h
  exact ⟨⟨a1, vk_R.same (u := U) rfl h1⟩, ⟨a2, vk_R.same (u := U) rfl h2⟩, ⟨a3, vk_R.same (u := U) rfl h3⟩, vx_Zq.moved (u := U) (Vm.Alike.refl U.vm) h4, vx_Zq.moved (u := U) (Vm.Alike.refl U.vm) h5, fun w hw => nsBad_same (u := U) (U := U.calling gf mk a) rfl hw (h6 w hw)⟩
def XP (D : va_G) (g : zG) (σ : zS) (U : State) : Prop := zPre D g zkS false 238 σ U ∧ TE g U
theorem XP.blind {D : va_G} {g : zG} {σ : zS} {as : List Value} : FrameBlind (va_Pc as (XP D g σ)) := fun a U gf mk q => by
  obtain ⟨q0, ⟨q1, q2, q3, q4, q5, q6⟩, q7⟩ := q
  exact ⟨q0, ⟨q1, q2, va_K.moved (u := U) (U := U.calling gf mk a) (Vm.Alike.refl U.vm) q3, fun x hx h3 => va_Nw.same rfl rfl (q4 x hx h3), va_AO.moved (u := U) (U := U.calling gf mk a) (Vm.Alike.refl U.vm) q5, q6⟩, q7.calling⟩
def XCf (D : va_G) (g : zG) (σ : zS) : String → State → State → Prop := vx_X (S := Unit) (fun _ => True) (fun E _ t => E = nsE ∧ va_P D zCl (zWl g zkS 238 σ) t.heap) (zA g)
abbrev xrm : Room := { frames := 20, cells := 1, slots := 6, locals := 2000 }
abbrev XQ (g : zG) : Array Value → State → Outcome → State → Prop := va_Qi (S := Unit) (fun _ _ => False) (fun _ _ => True) (zA g)
def XMet (l : Launch) (D : va_G) (g : zG) (mi : Nat) (as : List Value) (σ : zS) : Prop := vx_Met l (zY mi) (zws mi) xrm (va_Pc as (XP D g σ)) (XQ g) (XCf D g σ) 1 6 (zA g)
section NSEND
variable {p : Program} {l : Launch} {e : Env} {s : State} {m : MethodId} {args : Array Value} {below : List Frame} {meth : Method} {c : Code} {D : va_G} {g : zG}
variable {H : Heap} {locs : List Loc} {pc : Nat} {ls : Array Slot} {σ : zS}
/-- the throw itself, at the end of the three methods -/
theorem ns_end {cc : ByteArray} {nL : Nat} (hx : p.tables.exec = Jvm.exec) (hb : c.code = cc) (hl : l.stackTraces = false) (hml : c.maxLocals = nL) (hown : s.vm.findClass "StartedByAYawn" = some m.cls) (hts : ∀ w ∈ zbig, w.before args s = true) (hte : TE g s) (hw : LW D g s σ H locs) (hls : ls.size = nL) (ht : ∀ x ∈ c.exceptionTable.toList, False) (hlocks : meth.locks = false) {text : String} {is : Nat} (hstr : ∃ a, vk_R "StartedByAYawn" is text a s)
    (hd : (decode cc pc = .ok (.new 148, 3) ∧ decode cc (pc + 3) = .ok (.dup, 1) ∧ decode cc (pc + 4) = .ok (.ldc is, 2) ∧ decode cc (pc + 6) = .ok (.invokespecial 152, 3) ∧ decode cc (pc + 9) = .ok (.athrow, 1)) ∨ (decode cc pc = .ok (.new 148, 3) ∧ decode cc (pc + 3) = .ok (.dup, 1) ∧ decode cc (pc + 4) = .ok (.ldc_w is, 3) ∧ decode cc (pc + 7) = .ok (.invokespecial 152, 3) ∧ decode cc (pc + 10) = .ok (.athrow, 1))) :
    W p l e xrm s m args below meth c H locs 0 0 (vx_MQ below (XQ g) (XCf D g σ) args s 1 6 (zA g)) (F0 m pc ls []) := by
  obtain ⟨hP, hS⟩ := hw
  obtain ⟨sa, hstr⟩ := hstr
  have hk : (Cond.classLink "StartedByAYawn" 148 nsE).before args s = true := hts _ (zbig_t (by decide +kernel) rfl)
  have hini : (Cond.initialized nsE).before args s = true := hts _ (zbig_t (by decide +kernel) rfl)
  have hat : ∀ w ∈ nsAt "StartedByAYawn" 152, w.before args s = true := by
    refine vx_hat (B := (nsAt "StartedByAYawn" 152).filter (fun w => !goodWord w)) (fun w hw => hts w (zbig_t (ns_in w hw) (List.mem_filter.mp hw).2)) (fun w hw => hw) (fun w hw => ?_)
    have h1 := hte.2.2.2.2.2 w hw
    rw [nsBad_eq] at hw
    simp only [List.mem_cons, List.not_mem_nil, or_false] at hw
    rcases hw with rfl | rfl | rfl | rfl <;> exact va_Nw.use rfl h1
  have fin : ∀ (pc2 : Nat), decode cc pc2 = .ok (.athrow, 1) → ∀ (q : Nat) (H1 : Heap) (ce : Cell), H1[q]? = some ce → ce.vm = .none → s.vm.findClass nsE = some ce.cls → H.size ≤ H1.size → (∀ x : Nat, x < H.size → H1[x]? = H[x]?) → va_S (zA g) s.heap H1 locs → W p l e xrm s m args below meth c H1 locs (0 + 1) (0 + 6) (vx_MQ below (XQ g) (XCf D g σ) args s 1 6 (zA g)) (F0 m pc2 ls [.ref q]) := by
    intro pc2 d9 q H1 ce h1 h2 h3 h4 h5 h6
    refine vx_athrow hx hb d9 (vx_out (E := nsE) (ce := ce) (fun x hx => (ht x hx).elim) hlocks h1 h2 h3 (fun t ht _ => ⟨(), trivial, ⟨rfl, ?_⟩, h6.F ht⟩) h6.2.2 (Nat.le_refl _) (Nat.le_refl _))
    rw [ht]
    exact hP.kept (fun k x hx => h5 x.1 ((hP k x hx).lt))
  rcases hd with ⟨d0, d3, d4, d6, d9⟩ | ⟨d0, d3, d4, d6, d9⟩
  · exact ns_make hx hb hl hown hk hini hstr hat ns_ot hte.2.2.2.1 hte.2.2.2.2.1 hS (by rw [hls, hml]) d0 d3 d4 d6 (by decide) (by decide) (by decide) (by decide) (fin _ d9)
  · exact ns_makeW hx hb hl hown hk hini hstr hat ns_ot hte.2.2.2.1 hte.2.2.2.2.1 hS (by rw [hls, hml]) d0 d3 d4 d6 (by decide) (by decide) (by decide) (by decide) (fin _ d9)
end NSEND
