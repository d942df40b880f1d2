abbrev thrD (P n k kr : Nat) (off : Int) : Prop := decode code P = .ok (.aload_n 1, 1) ∧ argsB (P + 1) n = true ∧ decode code (P + 1 + 6 * n) = .ok (.aload_n 3, 1) ∧ decode code (P + 1 + 6 * n + 1) = .ok (.invokestatic k, 3) ∧ decode code (P + 1 + 6 * n + 1 + 3) = .ok (.istore 5, 2) ∧ decode code (P + 1 + 6 * n + 1 + 3 + 2) = .ok (.aload_n 2, 1) ∧ argsB (P + 1 + 6 * n + 1 + 3 + 2 + 1) n = true
abbrev thrE (B kr : Nat) (off : Int) : Prop := decode code B = .ok (.invokevirtual kr, 3) ∧ decode code (B + 3) = .ok (.istore 6, 2) ∧ decode code (B + 3 + 2) = .ok (.aload_n 2, 1) ∧ decode code (B + 3 + 2 + 1) = .ok (.invokevirtual 54, 3) ∧ decode code (B + 3 + 2 + 1 + 3) = .ok (.iload 5, 2) ∧ decode code (B + 3 + 2 + 1 + 3 + 2) = .ok (.if_icmp .eq 5, 3)
abbrev thrF (B : Nat) (off : Int) : Prop := decode code (B + 16) = .ok (.iload 5, 2) ∧ decode code (B + 16 + 2) = .ok (.ifCond .ne 15, 3) ∧ decode code (B + 16 + 2 + 3) = .ok (.aload_n 3, 1) ∧ decode code (B + 16 + 2 + 3 + 1) = .ok (.iconst 0, 1) ∧ decode code (B + 16 + 2 + 3 + 1 + 1) = .ok (.laload, 1) ∧ decode code (B + 16 + 2 + 3 + 1 + 1 + 1) = .ok (.iload 6, 2) ∧ decode code (B + 16 + 2 + 3 + 1 + 1 + 1 + 2) = .ok (.i2l, 1) ∧ decode code (B + 16 + 2 + 3 + 1 + 1 + 1 + 2 + 1) = .ok (.lcmp, 1) ∧ decode code (B + 16 + 2 + 3 + 1 + 1 + 1 + 2 + 1 + 1) = .ok (.ifCond .eq 5, 3) ∧ decode code (B + 33) = .ok (.goto off, 3) ∧ ((B + 33 : Nat) : Int) + off = (1614 : Nat)
section LAW4
variable {p : Program} {l : Launch} {e : Env} {s : State} {m : MethodId} {below : List Frame} {meth : Method} {c : Code} {b L : Nat} {xs : Nat → Int32} {D : va_G} {g : zG}
variable {H : Heap} {locs : List Loc} {cells slots P B : Nat} {ls : Array Slot} {st : List Value} {σ : zS}
theorem law_three (C : LC p s m meth c b L xs D g) (hte : TE g s) (hw : LW D g s σ H locs) {i : Nat} (hl : LL g b (nI i) ls) (hi : i + 5 ≤ L) (hcc : cells + 1 ≤ 601024) (hss : slots + 6 ≤ 7293033) {n a k kr r maxL dr : Nat} {y : MethodName} {cc : ByteArray} {hh : List (Nat × Nat × Nat × Nat)} {ws : List Cond} {rv v2 : Int32} {σ1 σ2 : zS} {off : Int} (hn : n ≤ 4) (hd : thrD P n k kr off) (hB : B = P + 1 + 6 * n + 1 + 3 + 2 + 1 + 6 * n) (he : thrE B kr off) (hf : thrF B off)
    (hws : ws = Cond.codeWith y cc maxL (some .int) hh :: zbig) (htw : Cond.methodLink R_law k y ∈ tables_1 ∧ Cond.static y ∈ tables_1 ∧ Cond.codeWith y cc maxL (some .int) hh ∈ tables_1) (hy : y.cls = "StartedByAYawnLaw") (hml9 : maxL ≤ 9) (hpr : ∀ sig, parseMethodDescriptor y.desc = some sig → n + 2 = sig.parameters.length)
    (hM : HMet l D g y ws (.ref g.1 :: (argL xs i n ++ [.ref (g.1 + 237)])) σ σ1 rv) (mr : methD kr r n 12) (vr : r ∈ zVi) (wr : Cond.methodLink R_law kr (zY r) ∈ tables_1) (hdr : dr ≤ 1000) (hR : ZMet l D g zkS false dr r (.ref 214 :: argL xs i n) 238 σ1 v2 238 σ2) (hthr : σ2 214 12 = rv) (hk : rv = 1 ∨ (rv = 0 ∧ σ2 237 0 = v2))
    (kk : ∀ H1 locs1 ls1, LW D g s σ2 H1 locs1 → LL g b (nI i) ls1 → WW p l e s m b below meth c H1 locs1 (cells + 1) (slots + 6) 1614 ls1 []) : WW p l e s m b below meth c H locs cells slots P ls [] := by
  obtain ⟨d1, d2, d3, d4, d5, d6, d7⟩ := hd
  obtain ⟨e1, e2, e3, e4, e5, e6⟩ := he
  obtain ⟨f1, f2, f3, f4, f5, f6, f7, f8, f9, f10, f11⟩ := hf
  obtain ⟨r1, r2, r3, r4, r5⟩ := mr
  have hx := C.1.1
  have hb := C.1.2.1
  obtain ⟨fl1, z1⟩ := zkS_214
  obtain ⟨vt, σt, hT, hvt, hst⟩ := zc_met (l := l) (D := D) (g := g) (d := 0) (mi := 170) (as := [.ref 214]) (σ := σ2) (Q := fun v s => v = σ2 214 12 ∧ s = σ2) (k_170_0 ⟨rfl, rfl⟩) (by decide) (fun w hw => by rw [List.mem_singleton.mp hw]; rfl) (by decide +kernel)
  rw [hvt, hst, hthr] at hT
  have h170 : (zMi 170).1 = 12 := by decide +kernel
  refine lv_aload_n hx hb d1 rfl (lv_at hl 1 rfl) ?_
  refine law_args C hw hl hi n hn d2 ?_
  refine lv_aload_n hx hb d3 rfl (lv_at hl 3 rfl) ?_
  have estk : (Value.ref (g.1 + 237) :: ((argL xs i n).reverse ++ [.ref g.1])) = (Value.ref g.1 :: (argL xs i n ++ [.ref (g.1 + 237)])).reverse ++ [] := by simp
  show WW p l e s m b below meth c H locs cells slots (P + 1 + 6 * n + 1) ls (Value.ref (g.1 + 237) :: ((argL xs i n).reverse ++ [.ref g.1]))
  rw [estk]
  refine law_help C hte hw hl.1 (n := n + 2) (As := .ref g.1 :: (argL xs i n ++ [.ref (g.1 + 237)])) hws htw hy hml9 hpr (by simp [argL_len]) hM d4 (fun H1 locs1 hw1 => ?_) hcc hss
  refine lv_istore (lv' := [(5, .int rv), (0, .ref b), (1, .ref g.1), (2, .ref (g.1 + 214)), (3, .ref (g.1 + 237)), (4, .int (nI i))]) hx hb d5 hl (by decide) rfl (fun ls1 hl1 => ?_)
  have hL1 : LL g b (nI i) ls1 := lv_sub hl1 [1, 2, 3, 4, 5] rfl
  refine lv_aload_n hx hb d6 rfl (lv_at hl1 3 rfl) ?_
  refine law_args C hw1 hL1 hi n hn d7 ?_
  rw [← hB]
  refine law_call C hw1 hl1.1 (o := 214) (n := n) (As := argL xs i n) (rest := []) e1 r1 vr wr (by decide) (by rw [z1, r4]) (by rw [r4]; decide) r2 (argL_len xs i n) (argL_int xs i n) hdr r3 hR (by decide) (fun H2 locs2 hw2 => ?_) hcc hss
  refine lv_istore (lv' := [(6, .int v2), (5, .int rv), (0, .ref b), (1, .ref g.1), (2, .ref (g.1 + 214)), (3, .ref (g.1 + 237)), (4, .int (nI i))]) hx hb e2 hl1 (by decide) rfl (fun ls2 hl2 => ?_)
  have hL2 : LL g b (nI i) ls2 := lv_sub hl2 [2, 3, 4, 5, 6] rfl
  refine lv_aload_n hx hb e3 rfl (lv_at hl2 4 rfl) ?_
  refine law_call C hw2 hl2.1 (o := 214) (n := 0) (d := 0) (a := 170) (As := []) (rest := []) e4 (by decide) (by decide +kernel) tw_ref.2.2.2 (by decide) (by rw [z1, h170]) (by decide +kernel) (by decide +kernel) rfl (fun w hw => absurd hw List.not_mem_nil) (by decide) (by decide +kernel) hT (by decide) (fun H3 locs3 hw3 => ?_) hcc hss
  refine lv_iload hx hb e5 (lv_at hl2 1 rfl) ?_
  refine lv_icmp_eq (tgt := B + 16) hx hb e6 (by omega) (fun _ => ?_) (fun q => absurd rfl q)
  refine lv_iload hx hb f1 (lv_at hl2 1 rfl) ?_
  have fin : WW p l e s m b below meth c H3 locs3 (cells + 1) (slots + 6) (B + 33) ls2 [] := by
    refine lv_goto (tgt := 1614) hx hb f10 f11 ?_
    exact kk H3 locs3 ls2 hw3 hL2
  refine lv_if_ne (tgt := B + 33) hx hb f2 (by omega) (fun _ => fin) (fun hz => ?_)
  have hk2 : σ2 237 0 = v2 := by
    rcases hk with q | q
    · rw [hz] at q; exact absurd q (by decide)
    · exact q.2
  refine lv_aload_n hx hb f3 rfl (lv_at hl2 5 rfl) ?_
  refine lv_iconst (v := 0) hx hb f4 (by decide) ?_
  have hc237 : (zWl g zkS 238 σ2)[237]? = some (g.1 + 237, .inl (g.2.2.2.2.1, 1, .inr (.inl (fun j => (σ2 237 j).toInt64)))) := by
    rw [zWl_get g zkS σ2 (by decide)]
    rfl
  refine va_lald hx hb C.2.2.1 hw3.1 237 3 hc237 rfl (i := 0) (zin_vp (by decide)) f5 ?_
  refine lv_iload hx hb f6 (lv_at hl2 0 rfl) ?_
  refine lv_i2l (v := v2.toInt64) hx hb f7 rfl ?_
  refine W.lcmp hx hb f8 ?_
  refine lv_if_eq (tgt := B + 33) hx hb f9 (by omega) (fun _ => fin) (fun hq => absurd ?_ hq)
  have h0 : (Int32.toNatClampNeg 0) = 0 := rfl
  show lg_cmp (σ2 237 (Int32.toNatClampNeg 0)).toInt64 v2.toInt64 = 0
  rw [h0, hk2]
  unfold lg_cmp
  simp
end LAW4
