/-! a run of the small machine is a contract of the large one -/
theorem zSwc_n {n nE : Nat} {a : Nat} {ls st : List Value} {σ : zS} {x : Int32} : ∀ sw, zSwc (fun _ _ _ n' _ => n' ≤ nE) a ls st n σ x sw → n ≤ nE := by
  intro sw
  induction sw with
  | nil => exact fun h => h
  | cons q r ih =>
    obtain ⟨v, t⟩ := q
    intro h
    unfold zSwc at h
    split at h
    · exact h
    · exact ih h
theorem zStep_n {n nE : Nat} {zk : zKd} {al : Bool} {e : zE} {ls st : List Value} {σ : zS} (h : zStep False (fun _ _ _ n' _ => n' ≤ nE) (fun _ n' _ => n' ≤ nE) (fun _ _ n' _ kk => ∃ v n'' σ'', n' ≤ n'' ∧ kk v n'' σ'') zk al e ls st n σ) : n ≤ nE := by
  obtain ⟨pc, ins, nx, a, b, d, f, c, sw⟩ := e
  have hgo : zGo False (fun _ _ _ n' _ => n' ≤ nE) (fun _ _ n' _ kk => ∃ v n'' σ'', n' ≤ n'' ∧ kk v n'' σ'') a b f nx ls st n σ → n ≤ nE := by
    intro h
    unfold zGo at h
    split at h
    · obtain ⟨v, n'', σ'', h1, h2⟩ := h
      exact Nat.le_trans h1 h2
    · exact h.elim
  have hcd : ∀ c x y, zCnd c x y (n ≤ nE) (n ≤ nE) → n ≤ nE := by
    intro c x y h
    unfold zCnd at h
    split at h <;> split at h <;> exact h
  cases ins
  all_goals try (exact h.elim)
  all_goals try (exact h)
  all_goals simp only [zStep] at h
  all_goals first
    | (simp only [zBin, zDiv, zUn, zIld, zAld, zIst, zAst, zInc, zNul, zDup, zPop, zDup2, zDupX, zGet, zAld1, zAst1, zAst2, zAldq, zAstq, zLen, zRet, zRetv] at h
       repeat' split at h
       all_goals first | exact h.elim | exact h)
    | (simp only [zNewa] at h
       repeat' split at h
       all_goals first | exact h.elim | omega)
    | (simp only [zIf, zIf2] at h
       repeat' split at h
       all_goals first | exact h.elim | exact hcd _ _ _ h)
    | (simp only [zSw] at h
       split at h
       · exact zSwc_n _ h
       · exact h.elim)
    | (simp only [zVirt] at h
       repeat' split at h
       all_goals first | exact h.elim | exact hgo h)
    | (simp only [zPut, zPutI] at h
       repeat' split at h
       all_goals first | exact h.elim | exact h)
    | (simp only [zCopy] at h
       repeat' split at h
       all_goals first | exact h.elim | exact h | exact hgo h)
    | (simp only [zObj, zSpec] at h
       repeat' split at h
       all_goals first | exact h.elim | exact h | exact hgo h)
    | (simp only [zNew] at h
       repeat' split at h
       all_goals first | exact h.elim | omega | exact h)
    | (repeat' split at h
       all_goals first | exact h.elim | exact h)
theorem zAt_mem {pc : Nat} {e : zE} : ∀ (l : List zE), zAt l pc = some e → e ∈ l ∧ e.1 = pc := by
  intro l
  induction l with
  | nil => intro h; cases h
  | cons a r ih =>
    intro h
    unfold zAt at h
    split at h
    · rename_i hq
      cases h
      exact ⟨List.mem_cons_self, Nat.eq_of_beq_eq_true hq⟩
    · exact ⟨List.mem_cons_of_mem _ (ih h).1, (ih h).2⟩
/-- nothing that was made goes -/
theorem zrunI_n {zk : zKd} {al : Bool} {cal : Nat → Nat → List Value → Nat → zS → Option (Int32 × Nat × zS)} {code : List zE} (hc : ∀ k mi as n σ v n' σ', cal k mi as n σ = some (v, n', σ') → n ≤ n') {vE : Int32} {nE : Nat} {σE : zS} : ∀ k pc ls st n σ, zrunI zk al cal code k pc ls st n σ = some (vE, nE, σE) → n ≤ nE := by
  intro k
  induction k with
  | zero => intro pc ls st n σ h; cases h
  | succ k ih =>
    intro pc ls st n σ h
    unfold zrunI at h
    split at h
    · cases h
    · rename_i e he
      refine zStep_n (zStep_rel (fun (x : Option (Int32 × Nat × zS)) (P : Prop) => x = some (vE, nE, σE) → P) ?_ ?_ ?_ ?_ zk al e ls st n σ h)
      · intro q; cases q
      · intro pc ls st n σ q; exact ih _ _ _ _ _ q
      · intro v n σ q; cases q; exact Nat.le_refl _
      · intro mi as n σ k1 k2 hk q
        split at q
        · cases q
        · rename_i v n' σ' hq
          exact ⟨v, n', σ', hc _ _ _ _ _ _ _ _ hq, hk _ _ _ q⟩
def zcal (zk : zKd) (al : Bool) : Nat → Nat → Nat → List Value → Nat → zS → Option (Int32 × Nat × zS)
  | 0 => fun _ _ _ _ _ => none
  | d + 1 => zrun zk al d
theorem zrun_eq (zk : zKd) (al : Bool) (d k mi : Nat) (as : List Value) (n : Nat) (σ : zS) : zrun zk al d k mi as n σ = zrunI zk al (zcal zk al d) (zCode mi) k 0 (zloc mi as) [] n σ := by
  cases d <;> rfl
theorem zcal_n (zk : zKd) (al : Bool) : ∀ d k mi as n σ v n' σ', zcal zk al d k mi as n σ = some (v, n', σ') → n ≤ n' := by
  intro d
  induction d with
  | zero => intro k mi as n σ v n' σ' h; cases h
  | succ d ih =>
    intro k mi as n σ v n' σ' h
    have h2 : zrun zk al d k mi as n σ = some (v, n', σ') := h
    rw [zrun_eq] at h2
    exact zrunI_n ih _ _ _ _ _ _ h2
section ZSOUND6
variable {l : Launch} {D : va_G} {g : zG} {zk : zKd} {al : Bool}
theorem zrunI_sound {d mi : Nat} (hkk : zKok zk) (hk2 : zKok2 zk) (hmi : mi < 274) {cal : Nat → Nat → List Value → Nat → zS → Option (Int32 × Nat × zS)} (hcn : ∀ k mi as n σ v n' σ', cal k mi as n σ = some (v, n', σ') → n ≤ n')
    (hcal : ∀ k mi as n σ v n' σ', cal k mi as n σ = some (v, n', σ') → 0 < d ∧ ((∀ w ∈ as, zc1 w = true) → as.length ≤ (zMi mi).2.1 → mi < 274 → ZMet l D g zk al (d - 1) mi as n σ v n' σ'))
    {k0 : Nat} {as : List Value} {n : Nat} {σ : zS} {vE : Int32} {nE : Nat} {σE : zS} (has : ∀ w ∈ as, zc1 w = true) (hlen : as.length ≤ (zMi mi).2.1) (hrun : zrunI zk al cal (zCode mi) k0 0 (zloc mi as) [] n σ = some (vE, nE, σE)) : ZMet l D g zk al d mi as n σ vE nE σE := by
  obtain ⟨hpf, -, -, -, -⟩ := zMok_all mi (List.mem_range.mpr hmi)
  refine va_MetF (ws := zws mi) (ws' := zbig) (cc := zB mi) (maxL := (zMi mi).2.1) (ret := (zMi mi).2.2) hpf rfl ?_
  intro p e s m args below meth c s₁ B hml hv
  obtain ⟨rfl, hg0, hP, hK, hnst, hao, hal⟩ := hv
  have hts0 := atoms_spec (ws := zws mi) B.pre
  have hts : ∀ w ∈ zbig, w.before ((as.map (zcv g.1)).toArray) s = true := fun w hw => hts0 w (List.mem_cons_of_mem _ hw)
  have hown : s.vm.findClass (zCs (zMi mi).1) = some m.cls := by
    have h1 := findClass_of_methodNamed B.named
    obtain ⟨-, h2, -, -, -⟩ := zMok_all mi (List.mem_range.mpr hmi)
    rwa [h2] at h1
  have hnm : meth.name = (zY mi).name := (name_of_methodNamed B.named B.method).1
  have hnE : n ≤ nE := zrunI_n hcn _ _ _ _ _ _ hrun
  have cx : zCx p (zrm zk d n nE) s m ((as.map (zcv g.1)).toArray) meth c D g zk mi d n nE (zMi mi).2.1 := ⟨B.exec, B.bytes, hml, hown, hts, hnm, hK, hnst, hao, rfl, hkk, hg0, hmi⟩
  have hGd := zGd_all hmi
  have hRt : (zCode mi).all (fun e => match e.2.1 with
    | .ireturn => decide (((zMi mi).2.2 = some .int ∧ e.2.2.2.2.2.1 = 0) ∨ ((zMi mi).2.2 = some .boolean ∧ e.2.2.2.2.2.1 = 1))
    | .return_ => decide ((zMi mi).2.2 = none)
    | _ => true) = true := List.all_eq_true.mp zRt_ok mi (List.mem_range.mpr hmi)
  have walk : ∀ k pc L st n1 σ1 H locs ls, zrunI zk al cal (zCode mi) k pc L st n1 σ1 = some (vE, nE, σE) → n ≤ n1 → zRl D g zk al s (zMi mi).2.1 L st ls n1 σ1 H locs → W p l e (zrm zk d n nE) s m ((as.map (zcv g.1)).toArray) below meth c H locs (n1 - n) (zsz zk n1 - zsz zk n) (MQ below (zPost D g zk al mi vE nE σE) ((as.map (zcv g.1)).toArray) s (nE - n) (zsz zk nE - zsz zk n) (zA g)) (F0 m pc ls (st.map (zcv g.1))) := by
    intro k
    induction k with
    | zero => intro pc L st n1 σ1 H locs ls h; cases h
    | succ k ih =>
      intro pc L st n1 σ1 H locs ls h hn hr
      unfold zrunI at h
      split at h
      · cases h
      · rename_i en he
        obtain ⟨hmem, hpc⟩ := zAt_mem _ he
        have hd1 := List.all_eq_true.mp hGd.1 en hmem
        have hz1 := List.all_eq_true.mp hGd.2 en hmem
        have hr1 := List.all_eq_true.mp hRt en hmem
        obtain ⟨pc', ins, nx, a, b, d2, f2, c2, sw⟩ := en
        dsimp only at hpc hd1 hr1
        subst hpc
        simp only [Bool.and_eq_true, decide_eq_true_eq] at hd1
        refine zs_step cx hk2 (fun q => of_decide_eq_true q) hd1.1 hz1 ?_ ?_ B.returns B.notSynchronized hr hn (zStep_rel (fun (x : Option (Int32 × Nat × zS)) (P : Prop) => x = some (vE, nE, σE) → P) ?_ ?_ ?_ ?_ zk al _ L st n1 σ1 h)
        · rintro rfl
          exact of_decide_eq_true hr1
        · rintro rfl
          exact of_decide_eq_true hr1
        · intro q; cases q
        · intro pc L st n2 σ2 q hn2
          exact ⟨zrunI_n hcn _ _ _ _ _ _ q, fun H locs ls hr => ih _ _ _ _ _ _ _ _ q hn2 hr⟩
        · intro v n2 σ2 q; cases q; exact ⟨rfl, rfl, rfl⟩
        · intro mi2 as2 n2 σ2 k1 k2 hk q
          split at q
          · cases q
          · rename_i v n3 σ3 hq
            obtain ⟨q1, q2⟩ := hcal _ _ _ _ _ _ _ _ hq
            exact ⟨q1, v, n3, σ3, hcn _ _ _ _ _ _ _ _ hq, q2, hk _ _ _ q⟩
  rw [lg_entry_eq]
  have hw := walk k0 0 (zloc mi as) [] n σ s.heap [] _ hrun (Nat.le_refl n) ⟨hP, va_S.rf, zLr_entry has hlen, by unfold zloc; simp; omega, fun v hv => (List.not_mem_nil hv).elim, hal⟩
  rw [Nat.sub_self, Nat.sub_self] at hw
  exact hw
theorem zrun_sound (hkk : zKok zk) (hk2 : zKok2 zk) : ∀ d k mi as n σ v n' σ', mi < 274 → (∀ w ∈ as, zc1 w = true) → as.length ≤ (zMi mi).2.1 → zrun zk al d k mi as n σ = some (v, n', σ') → ZMet l D g zk al d mi as n σ v n' σ' := by
  intro d
  induction d with
  | zero =>
    intro k mi as n σ v n' σ' hmi has hlen h
    rw [zrun_eq] at h
    exact zrunI_sound hkk hk2 hmi (zcal_n zk al 0) (fun k mi as n σ v n' σ' q => by cases q) has hlen h
  | succ d ih =>
    intro k mi as n σ v n' σ' hmi has hlen h
    rw [zrun_eq] at h
    exact zrunI_sound hkk hk2 hmi (zcal_n zk al (d + 1)) (fun k mi as n σ v n' σ' q => ⟨Nat.succ_pos d, fun h1 h2 h3 => ih k mi as n σ v n' σ' h3 h1 h2 q⟩) has hlen h
end ZSOUND6
