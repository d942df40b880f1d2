/-! every step, and every run -/
theorem zSwok_run {K : Nat → List Value → List Value → Nat → zS → Prop} {a pc n : Nat} {L st : List Value} {σ : zS} {x : Int32} : ∀ (os : List Int) (sw : List (Int32 × Nat)) (lo : Int), zSwok pc lo os sw = true → zSwc K a L st n σ x sw → (∃ (i : Nat) (o : Int) (t : Nat), os[i]? = some o ∧ x.toInt = lo + i ∧ (pc : Int) + o = t ∧ K t L st n σ) ∨ ((x.toInt < lo ∨ lo + os.length ≤ x.toInt) ∧ K a L st n σ) := by
  intro os
  induction os with
  | nil =>
    intro sw lo h1 h2
    cases sw with
    | nil => exact Or.inr ⟨by simp; omega, h2⟩
    | cons q r => cases h1
  | cons o os ih =>
    intro sw lo h1 h2
    cases sw with
    | nil => cases h1
    | cons q r =>
      obtain ⟨v, t⟩ := q
      simp only [zSwok, Bool.and_eq_true, decide_eq_true_eq] at h1
      obtain ⟨⟨h3, h4⟩, h5⟩ := h1
      unfold zSwc at h2
      split at h2
      · rename_i hx
        subst hx
        exact Or.inl ⟨0, o, t, rfl, by rw [h3]; simp, h4, h2⟩
      · rename_i hx
        have hne : x.toInt ≠ lo := fun q => hx (Int32.toInt_inj.mp (by rw [q, h3]))
        rcases ih r (lo + 1) h5 h2 with ⟨i, o', t', e1, e2, e3, e4⟩ | ⟨e1, e2⟩
        · exact Or.inl ⟨i + 1, o', t', by rw [List.getElem?_cons_succ]; exact e1, by rw [e2]; push_cast; omega, e3, e4⟩
        · refine Or.inr ⟨?_, e2⟩
          rw [List.length_cons]
          push_cast
          omega
theorem zLkok_run {K : Nat → List Value → List Value → Nat → zS → Prop} {a pc n : Nat} {L st : List Value} {σ : zS} {x : Int32} {dflt : Int} (hd : (pc : Int) + dflt = a) : ∀ (os : List (Int × Int)) (sw : List (Int32 × Nat)), zLkok pc os sw = true → zSwc K a L st n σ x sw → ∃ t : Nat, (pc : Int) + Op.lookupswitch.offset os dflt x.toInt = t ∧ K t L st n σ := by
  intro os
  induction os with
  | nil =>
    intro sw h1 h2
    cases sw with
    | nil => exact ⟨a, hd, h2⟩
    | cons q r => cases h1
  | cons o os ih =>
    intro sw h1 h2
    cases sw with
    | nil => obtain ⟨k, o⟩ := o; cases h1
    | cons q r =>
      obtain ⟨v, t⟩ := q
      obtain ⟨k, o⟩ := o
      simp only [zLkok, Bool.and_eq_true, decide_eq_true_eq] at h1
      obtain ⟨⟨h3, h4⟩, h5⟩ := h1
      rw [Op.lookupswitch.offset_cons]
      unfold zSwc at h2
      split at h2
      · rename_i hx
        subst hx
        rw [if_pos h3.symm]
        exact ⟨t, h4, h2⟩
      · rename_i hx
        rw [if_neg (fun q => hx (Int32.toInt_inj.mp (by rw [← q, h3])))]
        exact ih r h5 h2
theorem zbit1 {x : Int32} (h : x &&& 1 = x) : x = 0 ∨ x = 1 := by
  have h1 := pk_and x (m := 1) 1 (by decide)
  rw [h] at h1
  have h2 : x.toBitVec.toNat % 2 ^ 1 = 0 ∨ x.toBitVec.toNat % 2 ^ 1 = 1 := by omega
  rcases h2 with h2 | h2 <;> rw [h2] at h1
  · exact Or.inl (h1.trans (by decide))
  · exact Or.inr (h1.trans (by decide))
section ZSOUND5
variable {p : Program} {l : Launch} {e : Env} {R : Room} {s : State} {m : MethodId} {args : Array Value} {below : List Frame} {meth : Method} {c : Code}
variable {D : va_G} {g : zG} {zk : zKd} {al : Bool} {mi d n0 nE nL : Nat} {Q : State → Prop}
variable {a nx pc b f n : Nat} {L st r : List Value} {σ : zS} {H : Heap} {locs : List Loc} {ls : Array Slot}
theorem zs_k {st' : List Value} {pc' : Nat} (hr : zRl D g zk al s nL L st ls n σ H locs) (hn : n0 ≤ n) (hst' : ∀ v ∈ st', zc1 v = true) (h : zKg p l e R s m args below meth c D g zk al n0 nE nL Q pc' L st' n σ) : W p l e R s m args below meth c H locs (n - n0) (zsz zk n - zsz zk n0) Q (F0 m pc' ls (st'.map (zcv g.1))) := by
  obtain ⟨hP, hS, hL, hLl, hst, hal⟩ := hr
  exact (h hn).2 H locs ls ⟨hP, hS, hL, hLl, hst', hal⟩
theorem zs_kl {L' st' : List Value} {pc' : Nat} {ls' : Array Slot} (hr : zRl D g zk al s nL L st ls n σ H locs) (hn : n0 ≤ n) (hst' : ∀ v ∈ st', zc1 v = true) (hl : zLr g.1 L' ls') (hl2 : L'.length = L.length) (h : zKg p l e R s m args below meth c D g zk al n0 nE nL Q pc' L' st' n σ) : W p l e R s m args below meth c H locs (n - n0) (zsz zk n - zsz zk n0) Q (F0 m pc' ls' (st'.map (zcv g.1))) := by
  obtain ⟨hP, hS, hL, hLl, hst, hal⟩ := hr
  exact (h hn).2 H locs ls' ⟨hP, hS, hl, hl2.trans hLl, hst', hal⟩
theorem zs_if {cd : ClassFile.Cond} {o : Int} (hx : p.tables.exec = Jvm.exec) (hb : c.code = zB mi) (hd : decode (zB mi) pc = .ok (.ifCond cd o, 3)) (hnx : nx = pc + 3) (ho : (pc : Int) + o = a) (hr : zRl D g zk al s nL L st ls n σ H locs) (hn : n0 ≤ n) (h : zIf False (zKg p l e R s m args below meth c D g zk al n0 nE nL Q) cd a nx L st n σ) : W p l e R s m args below meth c H locs (n - n0) (zsz zk n - zsz zk n0) Q (F0 m pc ls (st.map (zcv g.1))) := by
  subst hnx
  unfold zIf at h
  split at h
  · rename_i x r
    have hst : ∀ w ∈ r, zc1 w = true := zs_c1_tail hr.2.2.2.2.1
    cases cd <;> simp only [zCnd] at h
    · exact lv_if_eq hx hb hd ho (fun hc => zs_k hr hn hst (by rw [if_pos hc] at h; exact h)) (fun hc => zs_k hr hn hst (by rw [if_neg hc] at h; exact h))
    · exact lv_if_ne hx hb hd ho (fun hc => zs_k hr hn hst (by rw [if_neg hc] at h; exact h)) (fun hc => zs_k hr hn hst (by rw [if_pos hc] at h; exact h))
    · exact lv_if_lt hx hb hd ho (fun hc => zs_k hr hn hst (by rw [if_pos hc] at h; exact h)) (fun hc => zs_k hr hn hst (by rw [if_neg hc] at h; exact h))
    · exact lv_if_ge hx hb hd ho (fun hc => zs_k hr hn hst (by rw [if_neg (Int32.not_lt.mpr hc)] at h; exact h)) (fun hc => zs_k hr hn hst (by rw [if_pos (Int32.not_le.mp hc)] at h; exact h))
    · exact lv_if_gt hx hb hd ho (fun hc => zs_k hr hn hst (by rw [if_pos hc] at h; exact h)) (fun hc => zs_k hr hn hst (by rw [if_neg hc] at h; exact h))
    · exact lv_if_le hx hb hd ho (fun hc => zs_k hr hn hst (by rw [if_neg (Int32.not_lt.mpr hc)] at h; exact h)) (fun hc => zs_k hr hn hst (by rw [if_pos (Int32.not_le.mp hc)] at h; exact h))
  · exact h.elim
theorem zs_if2 {cd : ClassFile.Cond} {o : Int} (hx : p.tables.exec = Jvm.exec) (hb : c.code = zB mi) (hd : decode (zB mi) pc = .ok (.if_icmp cd o, 3)) (hnx : nx = pc + 3) (ho : (pc : Int) + o = a) (hr : zRl D g zk al s nL L st ls n σ H locs) (hn : n0 ≤ n) (h : zIf2 False (zKg p l e R s m args below meth c D g zk al n0 nE nL Q) cd a nx L st n σ) : W p l e R s m args below meth c H locs (n - n0) (zsz zk n - zsz zk n0) Q (F0 m pc ls (st.map (zcv g.1))) := by
  subst hnx
  unfold zIf2 at h
  split at h
  · rename_i y x r
    have hst : ∀ w ∈ r, zc1 w = true := zs_c1_tail (zs_c1_tail hr.2.2.2.2.1)
    cases cd <;> simp only [zCnd] at h
    · exact lv_icmp_eq hx hb hd ho (fun hc => zs_k hr hn hst (by rw [if_pos hc] at h; exact h)) (fun hc => zs_k hr hn hst (by rw [if_neg hc] at h; exact h))
    · exact lv_icmp_ne hx hb hd ho (fun hc => zs_k hr hn hst (by rw [if_neg hc] at h; exact h)) (fun hc => zs_k hr hn hst (by rw [if_pos hc] at h; exact h))
    · exact lv_icmp_lt hx hb hd ho (fun hc => zs_k hr hn hst (by rw [if_pos hc] at h; exact h)) (fun hc => zs_k hr hn hst (by rw [if_neg hc] at h; exact h))
    · exact lv_icmp_ge hx hb hd ho (fun hc => zs_k hr hn hst (by rw [if_neg (Int32.not_lt.mpr hc)] at h; exact h)) (fun hc => zs_k hr hn hst (by rw [if_pos (Int32.not_le.mp hc)] at h; exact h))
    · exact lv_icmp_gt hx hb hd ho (fun hc => zs_k hr hn hst (by rw [if_pos hc] at h; exact h)) (fun hc => zs_k hr hn hst (by rw [if_neg hc] at h; exact h))
    · exact lv_icmp_le hx hb hd ho (fun hc => zs_k hr hn hst (by rw [if_neg (Int32.not_lt.mpr hc)] at h; exact h)) (fun hc => zs_k hr hn hst (by rw [if_pos (Int32.not_le.mp hc)] at h; exact h))
  · exact h.elim
theorem zs_put {k d2 f2 : Nat} {ini : Bool} {c2 : Int32} {sw : List (Int32 × Nat)} (cx : zCx p R s m args meth c D g zk mi d n0 nE nL) (hini : ini = true → (zY mi).name = "<init>") (hd : decode (zB mi) pc = .ok (.putfield k, nx - pc)) (hz : zeok (zMi mi).1 ini (pc, .putfield k, nx, a, b, d2, f2, c2, sw) = true) (hr : zRl D g zk al s nL L st ls n σ H locs) (hn : n0 ≤ n) (h : zPut False (zKg p l e R s m args below meth c D g zk al n0 nE nL Q) zk a b d2 nx L st n σ) : W p l e R s m args below meth c H locs (n - n0) (zsz zk n - zsz zk n0) Q (F0 m pc ls (st.map (zcv g.1))) := by
  simp only [zeok, Bool.and_eq_true, beq_iff_eq, decide_eq_true_eq, Bool.or_eq_true] at hz
  obtain ⟨⟨⟨hl, hnx⟩, hfin⟩, hty⟩ := hz
  rw [hnx, Nat.add_sub_cancel_left] at hd
  have hfin2 : ((zTf a).2.1 b).2.2.2 = false ∨ ((zY mi).name = "<init>" ∧ a = (zMi mi).1 ∧ ((zTf a).2.1 b).1 = zCs (zMi mi).1) := hfin.imp id fun q => ⟨hini q.1.1, q.1.2, q.2⟩
  unfold zPut at h
  split at h
  · rename_i x o r
    unfold zPutI at h
    split at h
    rename_i t ci fl hzk
    split at h
    · rename_i hc
      simp only [Bool.and_eq_true, Nat.blt_eq, beq_iff_eq] at hc
      obtain ⟨⟨⟨ho, rfl⟩, rfl⟩, hf⟩ := hc
      split at h
      · have hp : parseFieldDescriptor ((zTf ci).2.1 b).2.2.1 = some .int := by
          have hty2 : ((zTf ci).2.1 b).2.2.1 = "I" := by simpa using hty
          rw [hty2]; decide +kernel
        exact zs_putc (v := .int x) (x := x) (fl := fl) (f := 0) cx hd hnx hl hfin2 hp rfl rfl hzk hf ho (by simp [zFld, zcv, zup, zput, upd]) hr hn h
      · split at h
        · rename_i hx1
          have hp : parseFieldDescriptor ((zTf ci).2.1 b).2.2.1 = some .boolean := by
            have hty2 : ((zTf ci).2.1 b).2.2.1 = "Z" := by simpa using hty
            rw [hty2]; decide +kernel
          have hx2 : x = 0 ∨ x = 1 := zbit1 hx1
          exact zs_putc (v := .int x) (x := x) (fl := fl) (f := 0) cx hd hnx hl hfin2 hp (by show Value.int (x &&& 1) = _; rw [hx1]; rfl) (by rcases hx2 with rfl | rfl <;> rfl) hzk hf ho (by simp [zFld, zcv, zup, zput, upd]) hr hn h
        · exact h.elim
      · exact h.elim
    · exact h.elim
  · rename_i v o r hnint
    split at h
    rename_i t ci fl hzk
    split at h
    · rename_i hc
      simp only [Bool.and_eq_true, Nat.blt_eq, beq_iff_eq] at hc
      obtain ⟨⟨⟨⟨⟨ho, rfl⟩, rfl⟩, hf⟩, rfl⟩, hv⟩ := hc
      have hfit : ∃ ty, parseFieldDescriptor ((zTf ci).2.1 b).2.2.1 = some ty ∧ narrow ty (zcv g.1 v) = zcv g.1 v ∧ fits ty (zcv g.1 v) = true := by
        have hty2 : (match parseFieldDescriptor ((zTf ci).2.1 b).2.2.1 with
          | some (.array _) => true
          | some (.object _) => true
          | _ => false) = true := hty
        split at hty2
        · rename_i t hq
          refine ⟨_, hq, ?_⟩
          cases v <;> first | exact ⟨rfl, rfl⟩ | cases hv
        · rename_i t hq
          refine ⟨_, hq, ?_⟩
          cases v <;> first | exact ⟨rfl, rfl⟩ | cases hv
        · cases hty2
      obtain ⟨ty, hp, h1, h2⟩ := hfit
      have hzv : zdec (zenc v) = v := by
        cases v with
        | ref o1 => exact zenc_dec (by simpa [zrefs] using hv)
        | null => rfl
        | _ => cases hv
      exact zs_putc (v := v) (x := zenc v) (fl := fl) (f := 1) cx hd hnx hl hfin2 hp h1 h2 hzk hf ho (by
        have : zup σ o b (zenc v) o b = zenc v := by simp [zup, zput, upd]
        simp only [zFld, this, hzv]) hr hn h
    · exact h.elim
  · exact h.elim
theorem zs_step {ini : Bool} {ins : Instr} {d2 f2 : Nat} {c2 : Int32} {sw : List (Int32 × Nat)} {vE : Int32} {σE : zS} (cx : zCx p R s m args meth c D g zk mi d n0 nE nL) (hk2 : zKok2 zk) (hini : ini = true → (zY mi).name = "<init>") (hd : decode (zB mi) pc = .ok (ins, nx - pc)) (hz : zeok (zMi mi).1 ini (pc, ins, nx, a, b, d2, f2, c2, sw) = true)
    (hrt : ins = .ireturn → ((zMi mi).2.2 = some .int ∧ d2 = 0) ∨ ((zMi mi).2.2 = some .boolean ∧ d2 = 1)) (hrv : ins = .return_ → (zMi mi).2.2 = none) (hret : meth.sig.returnType = (zMi mi).2.2) (hlocks : meth.locks = false) (hr : zRl D g zk al s nL L st ls n σ H locs) (hn : n0 ≤ n)
    (h : zStep False (zKg p l e R s m args below meth c D g zk al n0 nE nL (MQ below (zPost D g zk al mi vE nE σE) args s (nE - n0) (zsz zk nE - zsz zk n0) (zA g))) (fun v n σ => v = vE ∧ n = nE ∧ σ = σE) (zCg l D g zk al d) zk al (pc, ins, nx, a, b, d2, f2, c2, sw) L st n σ) :
    W p l e R s m args below meth c H locs (n - n0) (zsz zk n - zsz zk n0) (MQ below (zPost D g zk al mi vE nE σE) args s (nE - n0) (zsz zk nE - zsz zk n0) (zA g)) (F0 m pc ls (st.map (zcv g.1))) := by
  have hst := hr.2.2.2.2.1
  have hL := hr.2.2.1
  have hx := cx.1
  have hb := cx.2.1
  have hown := cx.2.2.2.1
  have hts := cx.2.2.2.2.1
  have hR : R = zrm zk d n0 nE := cx.2.2.2.2.2.2.2.2.2.1
  have hz0 := hz
  cases ins
  all_goals try (exact h.elim)
  all_goals (simp only [zStep] at h; try simp only [zeok, Bool.and_eq_true, beq_iff_eq, decide_eq_true_eq] at hz)
  case aaload => subst hz; rw [Nat.add_sub_cancel_left] at hd; exact zs_aldq cx hd rfl hr hn h
  case aastore => subst hz; rw [Nat.add_sub_cancel_left] at hd; exact zs_astq cx hd rfl hr hn h
  case aconst_null => subst hz; rw [Nat.add_sub_cancel_left] at hd; exact lv_null hx hb hd (zs_k hr hn (zs_c1_cons rfl hst) h)
  case aload k =>
    obtain ⟨rfl, rfl⟩ := hz
    rw [Nat.add_sub_cancel_left] at hd
    unfold zAld at h
    split at h
    · rename_i o ho
      exact lv_aload hx hb hd (zLr_get hL ho rfl) (zs_k hr hn (zs_c1_cons rfl hst) h)
    · rename_i ho
      exact lv_aloadN hx hb hd (zLr_get hL ho rfl) (zs_k hr hn (zs_c1_cons rfl hst) h)
    · exact h.elim
  case aload_n k =>
    obtain ⟨hk, rfl⟩ := hz
    rw [Nat.add_sub_cancel_left] at hd
    unfold zAld at h
    split at h
    · rename_i o ho
      exact lv_aload_n hx hb hd hk (zLr_get hL ho rfl) (zs_k hr hn (zs_c1_cons rfl hst) h)
    · rename_i ho
      exact lv_aload_nN hx hb hd hk (zLr_get hL ho rfl) (zs_k hr hn (zs_c1_cons rfl hst) h)
    · exact h.elim
  case anewarray k =>
    obtain ⟨rfl, hl⟩ := hz
    rw [Nat.add_sub_cancel_left] at hd
    exact zs_newq cx hk2 hd rfl hl hr hn h
  case arraylength => subst hz; rw [Nat.add_sub_cancel_left] at hd; exact zs_len cx hd rfl hr hn h
  case astore k =>
    obtain ⟨rfl, rfl⟩ := hz
    rw [Nat.add_sub_cancel_left] at hd
    unfold zAst at h
    obtain ⟨lv, h1, h2⟩ := id hL
    split at h
    · split at h
      · rename_i ha
        exact lv_astore hx hb hd h1 ha rfl (fun ls' hl' => zs_kl hr hn (zs_c1_tail hst) (zLr_set (v := .ref _) ha h2 hl') (by rw [List.length_set]) h)
      · exact h.elim
    · split at h
      · rename_i ha
        exact lv_astoreN hx hb hd h1 ha rfl (fun ls' hl' => zs_kl hr hn (zs_c1_tail hst) (zLr_set (v := .null) ha h2 hl') (by rw [List.length_set]) h)
      · exact h.elim
    · exact h.elim
  case astore_n k =>
    obtain ⟨hk, rfl⟩ := hz
    rw [Nat.add_sub_cancel_left] at hd
    unfold zAst at h
    obtain ⟨lv, h1, h2⟩ := id hL
    split at h
    · split at h
      · rename_i ha
        exact lv_astore_n hx hb hd hk h1 ha rfl (fun ls' hl' => zs_kl hr hn (zs_c1_tail hst) (zLr_set (v := .ref _) ha h2 hl') (by rw [List.length_set]) h)
      · exact h.elim
    · split at h
      · rename_i ha
        exact lv_astore_nN hx hb hd hk h1 ha rfl (fun ls' hl' => zs_kl hr hn (zs_c1_tail hst) (zLr_set (v := .null) ha h2 hl') (by rw [List.length_set]) h)
      · exact h.elim
    · exact h.elim
  case baload => subst hz; rw [Nat.add_sub_cancel_left] at hd; exact zs_bald cx hd rfl hr hn h
  case bastore => subst hz; rw [Nat.add_sub_cancel_left] at hd; exact zs_bast cx hd rfl hr hn h
  case bipush k =>
    obtain ⟨hk, rfl⟩ := hz
    rw [Nat.add_sub_cancel_left] at hd
    exact lv_bipush hx hb hd hk (zs_k hr hn (zs_c1_cons rfl hst) h)
  case dup =>
    subst hz; rw [Nat.add_sub_cancel_left] at hd
    unfold zDup at h
    split at h
    · split at h
      · rename_i v r hv
        exact lv_dup hx hb hd (zc1_cat hv) (zs_k hr hn (zs_c1_cons hv hst) h)
      · exact h.elim
    · exact h.elim
  case dup_x1 =>
    subst hz; rw [Nat.add_sub_cancel_left] at hd
    unfold zDupX at h
    split at h
    · split at h
      · rename_i v w r hv
        simp only [Bool.and_eq_true] at hv
        exact lv_dup_x1 hx hb hd (zc1_cat hv.1) (zc1_cat hv.2) (zs_k hr hn (zs_c1_cons hv.1 (zs_c1_cons hv.2 (zs_c1_cons hv.1 (zs_c1_tail (zs_c1_tail hst))))) h)
      · exact h.elim
    · exact h.elim
  case dup2 =>
    subst hz; rw [Nat.add_sub_cancel_left] at hd
    unfold zDup2 at h
    split at h
    · split at h
      · rename_i v w r hv
        simp only [Bool.and_eq_true] at hv
        exact lv_dup2_11 hx hb hd (zc1_cat hv.1) (zc1_cat hv.2) (zs_k hr hn (zs_c1_cons hv.1 (zs_c1_cons hv.2 hst)) h)
      · exact h.elim
    · exact h.elim
  case getfield k =>
    obtain ⟨hl, rfl⟩ := hz
    rw [Nat.add_sub_cancel_left] at hd
    exact zs_get cx hd rfl hl hr hn h
  case goto o =>
    obtain ⟨ho, rfl⟩ := hz
    rw [Nat.add_sub_cancel_left] at hd
    exact lv_goto hx hb hd ho (zs_k hr hn hst h)
  case i2b =>
    subst hz; rw [Nat.add_sub_cancel_left] at hd
    unfold zUn at h
    split at h
    · exact lv_i2b hx hb hd rfl (zs_k hr hn (zs_c1_cons rfl (zs_c1_tail hst)) h)
    · exact h.elim
  case i2s =>
    subst hz; rw [Nat.add_sub_cancel_left] at hd
    unfold zUn at h
    split at h
    · exact lv_i2s hx hb hd rfl (zs_k hr hn (zs_c1_cons rfl (zs_c1_tail hst)) h)
    · exact h.elim
  case ineg =>
    subst hz; rw [Nat.add_sub_cancel_left] at hd
    unfold zUn at h
    split at h
    · exact lv_ineg hx hb hd (zs_k hr hn (zs_c1_cons rfl (zs_c1_tail hst)) h)
    · exact h.elim
  case iadd =>
    subst hz; rw [Nat.add_sub_cancel_left] at hd
    unfold zBin at h
    split at h
    · exact lv_iadd hx hb hd (zs_k hr hn (zs_c1_cons rfl (zs_c1_tail (zs_c1_tail hst))) h)
    · exact h.elim
  case isub =>
    subst hz; rw [Nat.add_sub_cancel_left] at hd
    unfold zBin at h
    split at h
    · exact lv_isub hx hb hd (zs_k hr hn (zs_c1_cons rfl (zs_c1_tail (zs_c1_tail hst))) h)
    · exact h.elim
  case imul =>
    subst hz; rw [Nat.add_sub_cancel_left] at hd
    unfold zBin at h
    split at h
    · exact lv_imul hx hb hd (zs_k hr hn (zs_c1_cons rfl (zs_c1_tail (zs_c1_tail hst))) h)
    · exact h.elim
  case iand =>
    subst hz; rw [Nat.add_sub_cancel_left] at hd
    unfold zBin at h
    split at h
    · exact lv_iand hx hb hd (zs_k hr hn (zs_c1_cons rfl (zs_c1_tail (zs_c1_tail hst))) h)
    · exact h.elim
  case ior =>
    subst hz; rw [Nat.add_sub_cancel_left] at hd
    unfold zBin at h
    split at h
    · exact lv_ior hx hb hd (zs_k hr hn (zs_c1_cons rfl (zs_c1_tail (zs_c1_tail hst))) h)
    · exact h.elim
  case ixor =>
    subst hz; rw [Nat.add_sub_cancel_left] at hd
    unfold zBin at h
    split at h
    · exact lv_ixor hx hb hd (zs_k hr hn (zs_c1_cons rfl (zs_c1_tail (zs_c1_tail hst))) h)
    · exact h.elim
  case ishl =>
    subst hz; rw [Nat.add_sub_cancel_left] at hd
    unfold zBin at h
    split at h
    · exact lv_ishl hx hb hd (zs_k hr hn (zs_c1_cons rfl (zs_c1_tail (zs_c1_tail hst))) h)
    · exact h.elim
  case ishr =>
    subst hz; rw [Nat.add_sub_cancel_left] at hd
    unfold zBin at h
    split at h
    · exact lv_ishr hx hb hd (zs_k hr hn (zs_c1_cons rfl (zs_c1_tail (zs_c1_tail hst))) h)
    · exact h.elim
  case idiv =>
    subst hz; rw [Nat.add_sub_cancel_left] at hd
    unfold zDiv at h
    split at h
    · split at h
      · exact h.elim
      · rename_i hy
        exact lv_idiv hx hb hd hy (zs_k hr hn (zs_c1_cons rfl (zs_c1_tail (zs_c1_tail hst))) h)
    · exact h.elim
  case irem =>
    subst hz; rw [Nat.add_sub_cancel_left] at hd
    unfold zDiv at h
    split at h
    · split at h
      · exact h.elim
      · rename_i hy
        exact lv_irem hx hb hd hy (zs_k hr hn (zs_c1_cons rfl (zs_c1_tail (zs_c1_tail hst))) h)
    · exact h.elim
  case iushr =>
    subst hz; rw [Nat.add_sub_cancel_left] at hd
    unfold zBin at h
    split at h
    · exact lv_iushr hx hb hd rfl (zs_k hr hn (zs_c1_cons rfl (zs_c1_tail (zs_c1_tail hst))) h)
    · exact h.elim
  case iaload => subst hz; rw [Nat.add_sub_cancel_left] at hd; exact zs_iald cx hd rfl hr hn h
  case iastore => subst hz; rw [Nat.add_sub_cancel_left] at hd; exact zs_iast cx hd rfl hr hn h
  case iconst k =>
    obtain ⟨hk, rfl⟩ := hz
    rw [Nat.add_sub_cancel_left] at hd
    exact lv_iconst hx hb hd hk (zs_k hr hn (zs_c1_cons rfl hst) h)
  case if_icmp cd o =>
    obtain ⟨ho, rfl⟩ := hz
    rw [Nat.add_sub_cancel_left] at hd
    exact zs_if2 hx hb hd rfl ho hr hn h
  case ifCond cd o =>
    obtain ⟨ho, rfl⟩ := hz
    rw [Nat.add_sub_cancel_left] at hd
    exact zs_if hx hb hd rfl ho hr hn h
  case ifnonnull o =>
    obtain ⟨ho, rfl⟩ := hz
    rw [Nat.add_sub_cancel_left] at hd
    unfold zNul at h
    split at h
    · exact lv_ifnonnullN hx hb hd (zs_k hr hn (zs_c1_tail hst) h)
    · exact lv_ifnonnull hx hb hd ho (zs_k hr hn (zs_c1_tail hst) h)
    · exact h.elim
  case ifnull o =>
    obtain ⟨ho, rfl⟩ := hz
    rw [Nat.add_sub_cancel_left] at hd
    unfold zNul at h
    split at h
    · exact lv_ifnullN hx hb hd ho (zs_k hr hn (zs_c1_tail hst) h)
    · exact lv_ifnull hx hb hd (zs_k hr hn (zs_c1_tail hst) h)
    · exact h.elim
  case iinc k v =>
    obtain ⟨⟨rfl, hv⟩, rfl⟩ := hz
    rw [Nat.add_sub_cancel_left] at hd
    unfold zInc at h
    split at h
    · rename_i x hxx
      obtain ⟨lv, h1, h2⟩ := id hL
      obtain ⟨k2, hk3⟩ := List.getElem?_of_mem (h2 _ _ hxx rfl)
      have ha : k < L.length := (List.getElem?_eq_some_iff.mp hxx).1
      exact lv_iinc hx hb hd h1 hk3 (by rw [hv]) ha rfl (fun ls' hl' => zs_kl hr hn hst (zLr_set (v := .int _) ha h2 hl') (by rw [List.length_set]) h)
    · exact h.elim
  case iload k =>
    obtain ⟨rfl, rfl⟩ := hz
    rw [Nat.add_sub_cancel_left] at hd
    unfold zIld at h
    split at h
    · rename_i x hxx
      exact lv_iload hx hb hd (zLr_get hL hxx rfl) (zs_k hr hn (zs_c1_cons rfl hst) h)
    · exact h.elim
  case iload_n k =>
    obtain ⟨hk, rfl⟩ := hz
    rw [Nat.add_sub_cancel_left] at hd
    unfold zIld at h
    split at h
    · rename_i x hxx
      exact lv_iload_n hx hb hd hk (zLr_get hL hxx rfl) (zs_k hr hn (zs_c1_cons rfl hst) h)
    · exact h.elim
  case istore k =>
    obtain ⟨rfl, rfl⟩ := hz
    rw [Nat.add_sub_cancel_left] at hd
    unfold zIst at h
    obtain ⟨lv, h1, h2⟩ := id hL
    split at h
    · split at h
      · rename_i ha
        exact lv_istore hx hb hd h1 ha rfl (fun ls' hl' => zs_kl hr hn (zs_c1_tail hst) (zLr_set (v := .int _) ha h2 hl') (by rw [List.length_set]) h)
      · exact h.elim
    · exact h.elim
  case istore_n k =>
    obtain ⟨hk, rfl⟩ := hz
    rw [Nat.add_sub_cancel_left] at hd
    unfold zIst at h
    obtain ⟨lv, h1, h2⟩ := id hL
    split at h
    · split at h
      · rename_i ha
        exact lv_istore_n hx hb hd hk h1 ha rfl (fun ls' hl' => zs_kl hr hn (zs_c1_tail hst) (zLr_set (v := .int _) ha h2 hl') (by rw [List.length_set]) h)
      · exact h.elim
    · exact h.elim
  case invokespecial k =>
    split at h
    · rename_i hd6
      subst hd6
      simp at hz
      obtain ⟨rfl, hl⟩ := hz
      rw [Nat.add_sub_cancel_left] at hd
      unfold zObj at h
      split at h
      · rename_i o r
        split at h
        · rename_i hc
          simp only [Bool.and_eq_true, Nat.blt_eq, Nat.ble_eq] at hc
          have hsize : ls.size = c.maxLocals := by obtain ⟨lv, q, -⟩ := hL; rw [q.1, hr.2.2.2.1, cx.2.2.1]
          refine W.objInit hx hb hown (hts _ (zbig_t (zOB_ok _ hl) rfl)) (hts _ (zbig_t (w := .instanceMethod Lib.objectInit) (by decide +kernel) rfl)) (hts _ (zbig_t (w := .code Lib.objectInit ⟨#[0xb1]⟩ 1 none) (by decide +kernel) rfl)) rfl hsize rfl hd (by rw [hR]; exact Nat.le_add_left _ _) (by
            rw [hR, Nat.add_assoc]
            have := lv_room (m := m) (pc := pc) (ls := ls) (rest := (Value.ref o :: r).map (zcv g.1)) (st := r.map (zcv g.1)) (by rw [zs_sum g.1 r (zs_c1_tail hst)]; exact hc.2)
            show _ ≤ 40 * (d + 1)
            omega) (zs_k hr hn (zs_c1_tail hst) h)
        · exact h.elim
      · exact h.elim
    · rename_i hd6
      split at h
      · exact h.elim
      rename_i hd9
      simp [hd9, hd6] at hz
      obtain ⟨rfl, ⟨⟨⟨⟨⟨hl, hkd⟩, hin9⟩, hb9⟩, hf9⟩, hrn⟩, hbm⟩ := hz
      rw [Nat.add_sub_cancel_left] at hd
      exact zs_spec cx hd rfl hl hkd hin9 hb9 hf9 hrn hbm hr hn h
  case invokestatic k =>
    split at h
    · rename_i hd5
      subst hd5
      simp at hz
      obtain ⟨rfl, hl⟩ := hz
      rw [Nat.add_sub_cancel_left] at hd
      exact zs_copy cx hd rfl hl hr hn h
    · rename_i hd5
      simp [hd5] at hz
      obtain ⟨rfl, ⟨⟨⟨⟨hl, hkd⟩, hst9⟩, hb9⟩, hf9⟩, hbm⟩ := hz
      rw [Nat.add_sub_cancel_left] at hd
      exact zs_static cx hd rfl hl hkd hst9 hb9 hf9 hbm hr hn h
  case invokevirtual k =>
    simp at hz
    obtain ⟨⟨⟨⟨⟨⟨rfl, hl⟩, rfl⟩, hvi⟩, hb9⟩, hf9⟩, hbm⟩ := hz
    rw [Nat.add_sub_cancel_left] at hd
    exact zs_virt cx hd rfl hl hvi hb9 hf9 hbm hr hn h
  case ireturn =>
    subst hz; rw [Nat.add_sub_cancel_left] at hd
    unfold zRet at h
    split at h
    · rename_i v
      have hfin : (v = vE ∧ n = nE ∧ σ = σE) ∧ ∃ ty, (zMi mi).2.2 = some ty ∧ narrow ty (.int v) = .int v := by
        rcases hrt rfl with ⟨q1, q2⟩ | ⟨q1, q2⟩
        · rw [if_pos q2] at h
          exact ⟨h, _, q1, rfl⟩
        · subst q2
          rw [if_neg (by decide)] at h
          split at h
          · rename_i hv
            exact ⟨h, _, q1, by show Value.int (v &&& 1) = _; rw [hv]⟩
          · exact h.elim
      obtain ⟨⟨rfl, rfl, rfl⟩, ty, hty, hnr⟩ := hfin
      obtain ⟨hP, hS, -, -, -, hal⟩ := hr
      refine W.zret hx hb (hret.trans hty) hnr (fun t ht hw => ?_) hS.2.2 hd hlocks
      unfold zPost
      rw [hty]
      exact ⟨⟨v, (), rfl, rfl, by rw [← ht] at hP; exact hP, by rw [ht]; exact hal⟩, hS.F ht⟩
    · exact h.elim
  case return_ =>
    subst hz; rw [Nat.add_sub_cancel_left] at hd
    unfold zRetv at h
    split at h
    · obtain ⟨rfl, rfl, rfl⟩ := h
      obtain ⟨hP, hS, -, -, -, hal⟩ := hr
      refine W.vret hx hb (hret.trans (hrv rfl)) (fun t ht hw => ?_) hS.2.2 hd hlocks
      unfold zPost
      rw [hrv rfl]
      exact ⟨⟨(), rfl, trivial, by rw [← ht] at hP; exact hP, by rw [ht]; exact hal⟩, hS.F ht⟩
    · exact h.elim
  case ldc k =>
    split at h
    · rename_i hd0
      subst hd0
      simp at hz
      obtain ⟨rfl, hl⟩ := hz
      rw [Nat.add_sub_cancel_left] at hd
      exact lv_ldc hx hb hown (hts _ (zbig_t (zKN_ok _ hl) rfl)) hd (zs_k hr hn (zs_c1_cons rfl hst) h)
    · exact h.elim
  case ldc_w k =>
    split at h
    · rename_i hd0
      subst hd0
      simp at hz
      obtain ⟨rfl, hl⟩ := hz
      rw [Nat.add_sub_cancel_left] at hd
      exact lv_ldcw hx hb hown (hts _ (zbig_t (zKN_ok _ hl) rfl)) hd (zs_k hr hn (zs_c1_cons rfl hst) h)
    · exact h.elim
  case lookupswitch df ps =>
    obtain ⟨⟨ha, hk⟩, hs⟩ := hz
    unfold zSw at h
    split at h
    · rename_i x r
      obtain ⟨t, e1, e2⟩ := zLkok_run ha _ _ hk h
      exact lv_lookup hx hb hd hs rfl e1 (zs_k hr hn (zs_c1_tail hst) e2)
    · exact h.elim
  case tableswitch df lo hi os =>
    obtain ⟨⟨ha, hk⟩, hs⟩ := hz
    unfold zSw at h
    split at h
    · rename_i x r
      rcases zSwok_run _ _ _ hk h with ⟨i, o, t, e1, e2, e3, e4⟩ | ⟨e1, e2⟩
      · have hi2 : i < os.size := by
          have := (List.getElem?_eq_some_iff.mp e1).1
          simpa using this
        refine lv_tableIn hx hb hd (by omega) (by omega) (off := o) (tgt := t) ?_ e3 (zs_k hr hn (zs_c1_tail hst) e4)
        rw [show (x.toInt - lo).toNat = i by omega]
        rw [← Array.getElem?_toList]
        exact e1
      · refine lv_tableOut hx hb hd ?_ ha (zs_k hr hn (zs_c1_tail hst) e2)
        simp at e1
        omega
    · exact h.elim
  case new k =>
    split at h
    · rename_i hd0
      subst hd0
      simp at hz
      obtain ⟨rfl, hl⟩ := hz
      rw [Nat.add_sub_cancel_left] at hd
      exact zs_new cx hd rfl hl hr hn h
    · exact h.elim
  case newarray t =>
    obtain ⟨rfl, ht⟩ := hz
    rw [Nat.add_sub_cancel_left] at hd
    refine zs_newa cx hk2 hd rfl ?_ hr hn h
    cases t <;> simp at ht <;> simp [ht]
  case pop =>
    subst hz; rw [Nat.add_sub_cancel_left] at hd
    unfold zPop at h
    split at h
    · split at h
      · rename_i v r hv
        exact lv_pop hx hb hd (zc1_cat hv) (zs_k hr hn (zs_c1_tail hst) h)
      · exact h.elim
    · exact h.elim
  case putfield k =>
    exact zs_put cx hini hd hz0 hr hn h
  case sipush k =>
    obtain ⟨hk, rfl⟩ := hz
    rw [Nat.add_sub_cancel_left] at hd
    exact lv_sipush hx hb hd hk (zs_k hr hn (zs_c1_cons rfl hst) h)
end ZSOUND5
