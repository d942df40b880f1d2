/-! arrays -/
section ZSOUND2
variable {p : Program} {l : Launch} {e : Env} {R : Room} {s : State} {m : MethodId} {args : Array Value} {below : List Frame} {meth : Method} {c : Code}
variable {D : va_G} {g : zG} {zk : zKd} {al : Bool} {mi d n0 nE nL : Nat} {Q : State → Prop}
variable {a nx pc b n : Nat} {L st r : List Value} {σ : zS} {H : Heap} {locs : List Loc} {ls : Array Slot}
theorem zs_c1_tail {v : Value} {r : List Value} (h : ∀ w ∈ v :: r, zc1 w = true) : ∀ w ∈ r, zc1 w = true := fun w hw => h w (List.mem_cons_of_mem _ hw)
theorem zs_c1_cons {v : Value} {r : List Value} (hv : zc1 v = true) (h : ∀ w ∈ r, zc1 w = true) : ∀ w ∈ v :: r, zc1 w = true := fun w hw => (List.mem_cons.mp hw).elim (fun q => by rw [q]; exact hv) (h w)
theorem zs_iald (cx : zCx p R s m args meth c D g zk mi d n0 nE nL) (hd : decode (zB mi) pc = .ok (.iaload, 1)) (hnx : nx = pc + 1) (hr : zRl D g zk al s nL L st ls n σ H locs) (hn : n0 ≤ n) (h : zAld1 False (zKg p l e R s m args below meth c D g zk al n0 nE nL Q) zk 1 1 nx L st n σ) : W p l e R s m args below meth c H locs (n - n0) (zsz zk n - zsz zk n0) Q (F0 m pc ls (st.map (zcv g.1))) := by
  obtain ⟨hx, hb, hml, hown, hts, hnm, hK, hnst, hao, hR, hkk, hg0, hmi⟩ := cx
  obtain ⟨hP, hS, hL, hLl, hst, hal⟩ := hr
  subst hnx
  unfold zAld1 at h
  split at h
  · rename_i i o r
    split at h
    rename_i t len fl hzk
    split at h
    · rename_i hc
      simp only [Bool.and_eq_true, Nat.blt_eq, beq_iff_eq, Bool.or_self] at hc
      obtain ⟨ho, rfl⟩ := hc
      split at h
      · rename_i hz
        have he : (zWl g zk n σ)[o]? = some (g.1 + o, .inl (g.2.1, len, .inl (σ o))) := by
          rw [zWl_get g zk σ ho]
          simp only [zcell, hzk]
        exact va_iald hx hb hK hP o 0 he rfl (zin_vp hz) hd ((h hn).2 H locs ls ⟨hP, hS, hL, hLl, zs_c1_cons rfl (zs_c1_tail (zs_c1_tail hst)), hal⟩)
      · exact h.elim
    · exact h.elim
  · exact h.elim
theorem zs_bald (cx : zCx p R s m args meth c D g zk mi d n0 nE nL) (hd : decode (zB mi) pc = .ok (.baload, 1)) (hnx : nx = pc + 1) (hr : zRl D g zk al s nL L st ls n σ H locs) (hn : n0 ≤ n) (h : zAld1 False (zKg p l e R s m args below meth c D g zk al n0 nE nL Q) zk 2 3 nx L st n σ) : W p l e R s m args below meth c H locs (n - n0) (zsz zk n - zsz zk n0) Q (F0 m pc ls (st.map (zcv g.1))) := by
  obtain ⟨hx, hb, hml, hown, hts, hnm, hK, hnst, hao, hR, hkk, hg0, hmi⟩ := cx
  obtain ⟨hP, hS, hL, hLl, hst, hal⟩ := hr
  subst hnx
  unfold zAld1 at h
  split at h
  · rename_i i o r
    split at h
    rename_i t len fl hzk
    split at h
    · rename_i hc
      simp only [Bool.and_eq_true, Nat.blt_eq, beq_iff_eq, Bool.or_eq_true] at hc
      obtain ⟨ho, hc⟩ := hc
      split at h
      · rename_i hz
        have hk := (h hn).2 H locs ls ⟨hP, hS, hL, hLl, zs_c1_cons rfl (zs_c1_tail (zs_c1_tail hst)), hal⟩
        rcases hc with rfl | rfl
        · have he : (zWl g zk n σ)[o]? = some (g.1 + o, .inl (g.2.2.1, len, .inl (σ o))) := by
            rw [zWl_get g zk σ ho]
            simp only [zcell, hzk]
          exact va_bald hx hb hK hP o 1 he rfl (zin_vp hz) hd hk
        · have he : (zWl g zk n σ)[o]? = some (g.1 + o, .inl (g.2.2.2.1, len, .inl (σ o))) := by
            rw [zWl_get g zk σ ho]
            simp only [zcell, hzk]
          exact va_zald hx hb hK hP o 2 he rfl (zin_vp hz) hd hk
      · exact h.elim
    · exact h.elim
  · exact h.elim
theorem zs_iast (cx : zCx p R s m args meth c D g zk mi d n0 nE nL) (hd : decode (zB mi) pc = .ok (.iastore, 1)) (hnx : nx = pc + 1) (hr : zRl D g zk al s nL L st ls n σ H locs) (hn : n0 ≤ n) (h : zAst1 False (zKg p l e R s m args below meth c D g zk al n0 nE nL Q) zk nx L st n σ) : W p l e R s m args below meth c H locs (n - n0) (zsz zk n - zsz zk n0) Q (F0 m pc ls (st.map (zcv g.1))) := by
  obtain ⟨hx, hb, hml, hown, hts, hnm, hK, hnst, hao, hR, hkk, hg0, hmi⟩ := cx
  obtain ⟨hP, hS, hL, hLl, hst, hal⟩ := hr
  subst hnx
  unfold zAst1 at h
  split at h
  · rename_i x i o r
    split at h
    rename_i t len fl hzk
    split at h
    · rename_i hc
      simp only [Bool.and_eq_true, Nat.blt_eq, beq_iff_eq] at hc
      obtain ⟨ho, rfl⟩ := hc
      split at h
      · rename_i hz
        have he : (zWl g zk n σ)[o]? = some (g.1 + o, .inl (g.2.1, len, .inl (σ o))) := by
          rw [zWl_get g zk σ ho]
          simp only [zcell, hzk]
        refine zast_row hx hb hK hP (zWl_D g zk n σ) hS o 0 he rfl (zin_vp hz) hd fun H1 locs1 hP1 hS1 hz1 => ?_
        rw [zWl_set g zk σ ho (upd (σ o) i.toNatClampNeg x) (by simp only [zcell, hzk, zput_same])] at hP1
        refine (h hn).2 H1 locs1 ls ⟨hP1, hS1, hL, hLl, zs_c1_tail (zs_c1_tail (zs_c1_tail hst)), fun ha => ⟨by rw [hz1]; exact (hal ha).1, fun q hq j => ?_⟩⟩
        rw [zup, zput_ne _ (by omega)]
        exact (hal ha).2 q hq j
      · exact h.elim
    · exact h.elim
  · exact h.elim
theorem zs_bast (cx : zCx p R s m args meth c D g zk mi d n0 nE nL) (hd : decode (zB mi) pc = .ok (.bastore, 1)) (hnx : nx = pc + 1) (hr : zRl D g zk al s nL L st ls n σ H locs) (hn : n0 ≤ n) (h : zAst2 False (zKg p l e R s m args below meth c D g zk al n0 nE nL Q) zk al nx L st n σ) : W p l e R s m args below meth c H locs (n - n0) (zsz zk n - zsz zk n0) Q (F0 m pc ls (st.map (zcv g.1))) := by
  obtain ⟨hx, hb, hml, hown, hts, hnm, hK, hnst, hao, hR, hkk, hg0, hmi⟩ := cx
  obtain ⟨hP, hS, hL, hLl, hst, hal⟩ := hr
  subst hnx
  unfold zAst2 at h
  split at h
  · rename_i x i o r
    split at h
    rename_i t len fl hzk
    split at h
    · rename_i hc
      simp only [Bool.and_eq_true, Nat.blt_eq, Bool.not_eq_true'] at hc
      obtain ⟨ho, rfl⟩ := hc
      split at h
      · rename_i hz
        split at h
        · have he : (zWl g zk n σ)[o]? = some (g.1 + o, .inl (g.2.2.1, len, .inl (σ o))) := by
            rw [zWl_get g zk σ ho]
            simp only [zcell, hzk]
          refine va_bast hx hb hK hP (zWl_D g zk n σ) hS o 1 he rfl (zin_vp hz) hd fun H1 locs1 hP1 _ hS1 => ?_
          rw [zWl_set g zk σ ho (upd (σ o) i.toNatClampNeg (vp_nar .byte x)) (by simp only [zcell, hzk, zput_same])] at hP1
          exact (h hn).2 H1 locs1 ls ⟨hP1, hS1, hL, hLl, zs_c1_tail (zs_c1_tail (zs_c1_tail hst)), fun ha => by cases ha⟩
        · have he : (zWl g zk n σ)[o]? = some (g.1 + o, .inl (g.2.2.2.1, len, .inl (σ o))) := by
            rw [zWl_get g zk σ ho]
            simp only [zcell, hzk]
          refine va_zast hx hb hK hP (zWl_D g zk n σ) hS o 2 he rfl (zin_vp hz) hd fun H1 locs1 hP1 _ hS1 => ?_
          rw [zWl_set g zk σ ho (upd (σ o) i.toNatClampNeg (vp_nar .boolean x)) (by simp only [zcell, hzk, zput_same])] at hP1
          exact (h hn).2 H1 locs1 ls ⟨hP1, hS1, hL, hLl, zs_c1_tail (zs_c1_tail (zs_c1_tail hst)), fun ha => by cases ha⟩
        · exact h.elim
      · exact h.elim
    · exact h.elim
  · exact h.elim
theorem zs_aldq (cx : zCx p R s m args meth c D g zk mi d n0 nE nL) (hd : decode (zB mi) pc = .ok (.aaload, 1)) (hnx : nx = pc + 1) (hr : zRl D g zk al s nL L st ls n σ H locs) (hn : n0 ≤ n) (h : zAldq False (zKg p l e R s m args below meth c D g zk al n0 nE nL Q) zk nx L st n σ) : W p l e R s m args below meth c H locs (n - n0) (zsz zk n - zsz zk n0) Q (F0 m pc ls (st.map (zcv g.1))) := by
  obtain ⟨hx, hb, hml, hown, hts, hnm, hK, hnst, hao, hR, hkk, hg0, hmi⟩ := cx
  obtain ⟨hP, hS, hL, hLl, hst, hal⟩ := hr
  subst hnx
  unfold zAldq at h
  split at h
  · rename_i i o r
    split at h
    rename_i t len fl hzk
    split at h
    · rename_i ho
      simp only [Nat.blt_eq] at ho
      split at h
      · rename_i hz
        split at h
        · have he : (zWl g zk n σ)[o]? = some (g.1 + o, .inl (g.2.2.2.2.2, len, .inr (.inr (.inr (.inr (fun j => some (g.1 + fl.getD j 0))))))) := by
            rw [zWl_get g zk σ ho]
            simp only [zcell, hzk]
          exact va_aldq hx hb hK hP o 4 he rfl (zin_vp hz) hd ((h hn).2 H locs ls ⟨hP, hS, hL, hLl, zs_c1_cons rfl (zs_c1_tail (zs_c1_tail hst)), hal⟩)
        · have he : (zWl g zk n σ)[o]? = some (g.1 + o, .inl (g.2.2.2.2.2, len, .inr (.inr (.inr (.inr (fun j => zro g.1 (σ o j))))))) := by
            rw [zWl_get g zk σ ho]
            simp only [zcell, hzk]
          refine va_aldq hx hb hK hP o 4 he rfl (zin_vp hz) hd ?_
          rw [zro_rf]
          exact ((h hn).2 H locs ls ⟨hP, hS, hL, hLl, zs_c1_cons (zdec_c1 _) (zs_c1_tail (zs_c1_tail hst)), hal⟩)
        · exact h.elim
      · exact h.elim
    · exact h.elim
  · exact h.elim
theorem zs_astq (cx : zCx p R s m args meth c D g zk mi d n0 nE nL) (hd : decode (zB mi) pc = .ok (.aastore, 1)) (hnx : nx = pc + 1) (hr : zRl D g zk al s nL L st ls n σ H locs) (hn : n0 ≤ n) (h : zAstq False (zKg p l e R s m args below meth c D g zk al n0 nE nL Q) zk nx L st n σ) : W p l e R s m args below meth c H locs (n - n0) (zsz zk n - zsz zk n0) Q (F0 m pc ls (st.map (zcv g.1))) := by
  obtain ⟨hx, hb, hml, hown, hts, hnm, hK, hnst, hao, hR, hkk, hg0, hmi⟩ := cx
  obtain ⟨hP, hS, hL, hLl, hst, hal⟩ := hr
  subst hnx
  unfold zAstq at h
  split at h
  · rename_i v i o r
    split at h
    rename_i t len fl t2 ci fl2 hzk hzk2
    split at h
    · rename_i hc
      simp only [Bool.and_eq_true, Nat.blt_eq, beq_iff_eq] at hc
      obtain ⟨⟨⟨⟨⟨⟨ho, hv⟩, rfl⟩, rfl⟩, rfl⟩, hv9⟩, hz⟩ := hc
      have he : (zWl g zk n σ)[o]? = some (g.1 + o, .inl (g.2.2.2.2.2, len, .inr (.inr (.inr (.inr (fun j => zro g.1 (σ o j))))))) := by
        rw [zWl_get g zk σ ho]
        simp only [zcell, hzk]
      have hev : (zWl g zk n σ)[v]? = some (g.1 + v, .inr (3, zfs g.1 σ v fl2)) := by
        rw [zWl_get g zk σ hv]
        simp only [zcell, hzk2]
      obtain ⟨-, -, -, -, hcl⟩ := zcls (a := 3) (by decide)
      refine zastq_row hx hb hK hP (zWl_D g zk n σ) hS o 4 v 3 he rfl hev hcl (zin_vp hz) hd fun H1 locs1 hP1 hS1 hz1 => ?_
      have hset : (va_up (fun j => zro g.1 (σ o j)) i.toNatClampNeg (some (g.1 + v))) = fun j => zro g.1 (zup σ o i.toNatClampNeg (nI (v + 1)) o j) := by
        funext j
        simp only [va_up, zup, zput_same, upd]
        by_cases hj : j = i.toNatClampNeg
        · rw [if_pos hj, if_pos hj]
          simp only [zro]
          rw [if_neg (nI_ne0 (by omega) (by omega)), nI_clamp (by omega)]
          rfl
        · rw [if_neg hj, if_neg hj]
      rw [zWl_set g zk σ ho (upd (σ o) i.toNatClampNeg (nI (v + 1))) (by rw [hset]; simp only [zcell, hzk, zup])] at hP1
      refine (h hn).2 H1 locs1 ls ⟨hP1, hS1, hL, hLl, zs_c1_tail (zs_c1_tail (zs_c1_tail hst)), fun ha => ⟨by rw [hz1]; exact (hal ha).1, fun q hq j => ?_⟩⟩
      rw [zup, zput_ne _ (by omega)]
      exact (hal ha).2 q hq j
    · exact h.elim
  · exact h.elim
theorem zs_len (cx : zCx p R s m args meth c D g zk mi d n0 nE nL) (hd : decode (zB mi) pc = .ok (.arraylength, 1)) (hnx : nx = pc + 1) (hr : zRl D g zk al s nL L st ls n σ H locs) (hn : n0 ≤ n) (h : zLen False (zKg p l e R s m args below meth c D g zk al n0 nE nL Q) zk nx L st n σ) : W p l e R s m args below meth c H locs (n - n0) (zsz zk n - zsz zk n0) Q (F0 m pc ls (st.map (zcv g.1))) := by
  obtain ⟨hx, hb, hml, hown, hts, hnm, hK, hnst, hao, hR, hkk, hg0, hmi⟩ := cx
  obtain ⟨hP, hS, hL, hLl, hst, hal⟩ := hr
  subst hnx
  unfold zLen at h
  split at h
  · rename_i o r
    split at h
    rename_i t len fl hzk
    split at h
    · rename_i hc
      simp only [Bool.and_eq_true, Nat.blt_eq] at hc
      obtain ⟨⟨ho, h1⟩, h2⟩ := hc
      have hk := (h hn).2 H locs ls ⟨hP, hS, hL, hLl, zs_c1_cons rfl (zs_c1_tail hst), hal⟩
      have he := zWl_get g zk σ ho
      have ht : t = 1 ∨ t = 2 ∨ t = 3 ∨ t = 4 ∨ t = 5 ∨ t = 6 := by omega
      rcases ht with rfl | rfl | rfl | rfl | rfl | rfl <;> simp only [zcell, hzk] at he
      · exact va_alen hx hb hK hP o 0 he rfl rfl hd hk
      · exact va_alen hx hb hK hP o 1 he rfl rfl hd hk
      · exact va_alen hx hb hK hP o 2 he rfl rfl hd hk
      · exact va_alen hx hb hK hP o 3 he rfl rfl hd hk
      · exact va_alen hx hb hK hP o 4 he rfl rfl hd hk
      · exact va_alen hx hb hK hP o 4 he rfl rfl hd hk
    · exact h.elim
  · exact h.elim
theorem zs_copy {k : Nat} (cx : zCx p R s m args meth c D g zk mi d n0 nE nL) (hd : decode (zB mi) pc = .ok (.invokestatic k, 3)) (hnx : nx = pc + 3) (hl : ((zMi mi).1, k) ∈ zCP) (hr : zRl D g zk al s nL L st ls n σ H locs) (hn : n0 ≤ n) (h : zCopy False (zKg p l e R s m args below meth c D g zk al n0 nE nL Q) zk al nx L st n σ) : W p l e R s m args below meth c H locs (n - n0) (zsz zk n - zsz zk n0) Q (F0 m pc ls (st.map (zcv g.1))) := by
  obtain ⟨hx, hb, hml, hown, hts, hnm, hK, hnst, hao, hR, hkk, hg0, hmi⟩ := cx
  obtain ⟨hP, hS, hL, hLl, hst, hal⟩ := hr
  subst hnx
  unfold zCopy at h
  split at h
  · rename_i mm dp o sp o0 r
    split at h
    rename_i t len fl t0 len0 fl0 hzk hzk0
    split at h
    · rename_i hc
      simp only [Bool.and_eq_true, Nat.blt_eq, beq_iff_eq, Bool.not_eq_true', Nat.ble_eq] at hc
      obtain ⟨⟨⟨⟨⟨⟨⟨⟨⟨⟨rfl, ho⟩, ho0⟩, rfl⟩, rfl⟩, hm⟩, hdp⟩, hsp⟩, h1⟩, h2⟩, h8⟩ := hc
      have he : (zWl g zk n σ)[o]? = some (g.1 + o, .inl (g.2.1, len, .inl (σ o))) := by
        rw [zWl_get g zk σ ho]
        simp only [zcell, hzk]
      have he0 : (zWl g zk n σ)[o0]? = some (g.1 + o0, .inl (g.2.1, len0, .inl (σ o0))) := by
        rw [zWl_get g zk σ ho0]
        simp only [zcell, hzk0]
      have hcat : ((r.map (zcv g.1)).map fun v => v.category).sum ≤ 8 := by
        have h9 : ∀ (r : List Value), (∀ w ∈ r, zc1 w = true) → ((r.map (zcv g.1)).map fun v => v.category).sum = r.length := by
          intro r hr
          induction r with
          | nil => rfl
          | cons v r ih =>
            have h3 := zc1_cat (b := g.1) (hr v List.mem_cons_self)
            simp only [List.map_cons, List.sum_cons, List.length_cons, h3, ih (zs_c1_tail hr)]
            omega
        rw [h9 r (zs_c1_tail (zs_c1_tail (zs_c1_tail (zs_c1_tail (zs_c1_tail hst)))))]
        exact h8
      have hls : c.maxLocals = ls.size := by
        obtain ⟨lv, q, -⟩ := hL
        rw [q.1, hLl, hml]
      refine va_copyi hx hb hls hown (hts _ (zbig_t (zCP_ok _ hl) rfl)) (hts _ (zbig_t (w := .native arraycopyName) (by decide +kernel) rfl)) (hts _ (zbig_t (w := .static arraycopyName) (by decide +kernel) rfl)) (hts _ (zbig_t (w := .initialized "java/lang/System") (by decide +kernel) rfl)) hK hP (zWl_D g zk n σ) hS o0 o 0 0 he0 he rfl rfl rfl (zin_pos hsp).1 (zin_pos hdp).1 (zin_pos hm).1 h2 h1 (fun _ _ => rfl) (by rw [hR]; exact Nat.le_add_left _ _) (by
          rw [hR]
          show _ ≤ 40 * (d + 1)
          have h10 : nativeFrameWords "java/lang/System" "arraycopy" 5 = 7 := by decide +kernel
          rw [h10]
          omega) hd fun H1 locs1 hP1 _ hS1 => ?_
      rw [zWl_set g zk σ ho (va_cpy (σ o0) (σ o) sp.toNatClampNeg dp.toNatClampNeg mm.toNatClampNeg) (by simp only [zcell, hzk, zput_same])] at hP1
      exact (h hn).2 H1 locs1 ls ⟨hP1, hS1, hL, hLl, zs_c1_tail (zs_c1_tail (zs_c1_tail (zs_c1_tail (zs_c1_tail hst)))), fun ha => by cases ha⟩
    · exact h.elim
  · exact h.elim
end ZSOUND2
