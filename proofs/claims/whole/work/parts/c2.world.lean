/-! the world as the law finds it -/
theorem inst_all : ∀ a, a < 13 → Cond.instantiable (zCs a) (zTf a).2.2 ∈ tables_1 := by decide +kernel
theorem zCl_len : zCl.length = 13 := by decide +kernel
theorem nst_if {q : Nat × Nat × Nat × Nat} (h : 3 ≤ q.2.2.2) : zWM q = .methodLinkNest (zCs q.1) q.2.1 (zY q.2.2.1) "StartedByAYawn" := if_neg (by omega)
theorem ar_words : Cond.arrayClass .int ∈ tables_1 ∧ Cond.arrayClass .byte ∈ tables_1 ∧ Cond.arrayClass .boolean ∈ tables_1 ∧ Cond.arrayClass .long ∈ tables_1 ∧ Cond.arrayOver (.object "StartedByAYawn$Kept") ∈ tables_1 := by decide +kernel
theorem te_words : Cond.stringRef "StartedByAYawn" 150 "no such FACE, or nothing such is told of it" ∈ tables_1 ∧ Cond.stringRef "StartedByAYawn" 300 "THE BOOK has no such yawn, or tells nothing such of it" ∈ tables_1 ∧ Cond.stringRef "StartedByAYawn" 446 "the ROW has no such number" ∈ tables_1 ∧ Cond.laysStatic Bundle.tN "UNASSIGNED_STACK" Bundle.steD ∈ tables_1 ∧ Cond.laysStatic Bundle.tN "SUPPRESSED_SENTINEL" Bundle.listD ∈ tables_1 ∧ Cond.initialized Bundle.tN ∈ tables_1 ∧ (∀ w ∈ [Cond.declares (Bundle.initS nsR), .declares (Bundle.initS "java/lang/Exception"), .declares (Bundle.initS Bundle.tN), .castable nsE nsE], w ∈ tables_1) := by decide +kernel
section WORLD
variable {s : State} {args : Array Value}
theorem ty_q (h : (Cond.arrayOver (.object "StartedByAYawn$Kept")).before args s = true) : ∃ cA, ArrOfT s cA (.object "StartedByAYawn$Kept") ∧ va_RA s cA (.object "StartedByAYawn$Kept") := by
  obtain ⟨comp, c, k, h1, h2, h3, h4, h5⟩ := Cond.arrayOver_spec h
  exact ⟨c, fun n z => ⟨fun k h => (by cases h), k, h3, comp, h4⟩, k, comp, h3, h4, h1, h5⟩
theorem law_world {p : Program} {m : MethodId} {meth : Method} {c : Code} {b L : Nat} {xs : Nat → Int32} (hL : L ≤ 2560) (C0 : lw_At p s m meth c b L xs) : ∃ (D : va_G) (g : zG), LC p s m meth c b L xs D g ∧ TE g s := by
  obtain ⟨hx, hb, hr, hml, hown, hts, hX, hbl, hlocks, hgv⟩ := id C0
  have hk : ∀ a : Nat, ∃ q : ClassId × (Nat → Nat), a < 13 → u_Kn s (zTf a).1 (zTf a).2.1 (zTf a).2.2 q.1 q.2 := by
    intro a
    by_cases ha : a < 13
    · obtain ⟨ty, hty, hnn, hin, hcl⟩ := zcls ha
      have h1 : (Cond.instantiable (zTf a).1 (zTf a).2.2).before #[Value.ref b] s = true := by
        rw [zTn_ok a ha]
        exact hts _ (lw_of_t (inst_all a ha))
      obtain ⟨cC, iS, h2⟩ := u_known (ws := zbig) (fun w hw => hts w (List.mem_filter.mp hw).1) hin h1
      exact ⟨(cC, iS), fun _ => h2⟩
    · exact ⟨(default, fun _ => 0), fun h => absurd h ha⟩
  obtain ⟨f, hf⟩ := Classical.axiomOfChoice hk
  obtain ⟨cI, kI, coI, i1, i2, i3⟩ := Cond.arrayClass_spec (hts _ (lw_of_t ar_words.1))
  obtain ⟨cB, kB, coB, j1, j2, j3⟩ := Cond.arrayClass_spec (hts _ (lw_of_t ar_words.2.1))
  obtain ⟨cZ, kZ, coZ, z1, z2, z3⟩ := Cond.arrayClass_spec (hts _ (lw_of_t ar_words.2.2.1))
  obtain ⟨cL, kL, coL, l1, l2, l3⟩ := Cond.arrayClass_spec (hts _ (lw_of_t ar_words.2.2.2.1))
  obtain ⟨cQ, hq1, hq2⟩ := ty_q (hts _ (lw_of_t ar_words.2.2.2.2))
  have hfl := flat_of_before _ hgv
  have hA : ∀ a : Nat, a < s.heap.size → ¬ (zA (s.heap.size, cI, cB, cZ, cL, cQ)) a := fun a ha => Nat.not_le.mpr ha
  refine ⟨(fun a => (f a).1, fun a => (f a).2), (s.heap.size, cI, cB, cZ, cL, cQ), ⟨C0, hL, ⟨fun a q hq => ?_, fun k q hq => ?_⟩, fun q hq h3 => ?_, va_AO.of (hts _ (lw_of_t ar_words.2.2.2.2)), rfl⟩, ?_⟩
  · have ha : a < 13 := by
      have := (List.getElem?_eq_some_iff.mp hq).1
      rwa [zCl_len] at this
    obtain ⟨-, -, -, -, hcl⟩ := zcls ha
    rw [hcl] at hq
    cases hq
    exact hf a ha
  · match k, hq with
    | 0, hq => cases hq; exact ⟨fun n z => ⟨fun k h => (by cases h), kI, i2, coI, i3⟩, i1⟩
    | 1, hq => cases hq; exact ⟨fun n z => ⟨fun k h => (by cases h), kB, j2, coB, j3⟩, j1⟩
    | 2, hq => cases hq; exact ⟨fun n z => ⟨fun k h => (by cases h), kZ, z2, coZ, z3⟩, z1⟩
    | 3, hq => cases hq; exact ⟨fun n z => ⟨fun k h => (by cases h), kL, l2, coL, l3⟩, l1⟩
    | 4, hq => cases hq; exact ⟨hq1, hq2⟩
    | k + 5, hq => simp [zTy] at hq
  · have h1 := hts _ (lw_of_t (zMLc_all q hq))
    rw [nst_if h3] at h1
    exact va_Nw.of rfl h1
  · obtain ⟨a1, -, -, -, q1, -⟩ := Cond.exactly_spec (hfl (.exactly (.string "StartedByAYawn" 150) "java/lang/String") (by decide +kernel))
    obtain ⟨a2, -, -, -, q2, -⟩ := Cond.exactly_spec (hfl (.exactly (.string "StartedByAYawn" 300) "java/lang/String") (by decide +kernel))
    obtain ⟨a3, -, -, -, q3, -⟩ := Cond.exactly_spec (hfl (.exactly (.string "StartedByAYawn" 446) "java/lang/String") (by decide +kernel))
    refine ⟨⟨a1, vk_R.of (hts _ (lw_of_t te_words.1)) q1⟩, ⟨a2, vk_R.of (hts _ (lw_of_t te_words.2.1)) q2⟩, ⟨a3, vk_R.of (hts _ (lw_of_t te_words.2.2.1)) q3⟩, vx_Zqof (hts _ (lw_of_t te_words.2.2.2.1)) (hts _ (lw_of_t te_words.2.2.2.2.2.1)) (hfl _ (by decide +kernel)) hA, vx_Zqof (hts _ (lw_of_t te_words.2.2.2.2.1)) (hts _ (lw_of_t te_words.2.2.2.2.2.1)) (hfl _ (by decide +kernel)) hA, fun w hw => ?_⟩
    rw [nsBad_eq] at hw
    have h1 := hts w (lw_of_t (te_words.2.2.2.2.2.2 w hw))
    simp only [List.mem_cons, List.not_mem_nil, or_false] at hw
    rcases hw with rfl | rfl | rfl | rfl <;> exact va_Nw.of rfl h1
end WORLD
