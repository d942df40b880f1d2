/-! what is made, and calls -/
theorem zMl_ok : ∀ i ∈ zAll, (zMi i).2.1 ≤ 21 := by decide +kernel
theorem zTn_ok : ∀ ci, ci < 13 → (zTf ci).1 = zCs ci := by decide +kernel
def zKok2 (zk : zKd) : Prop := ∀ o, (zk o).2.1 ≤ 60000
section ZSOUND3
variable {p : Program} {l : Launch} {e : Env} {R : Room} {s : State} {m : MethodId} {args : Array Value} {below : List Frame} {meth : Method} {c : Code}
variable {D : va_G} {g : zG} {zk : zKd} {al : Bool} {mi d n0 nE nL : Nat} {Q : State → Prop}
variable {a nx pc b n : Nat} {L st r : List Value} {σ : zS} {H : Heap} {locs : List Loc} {ls : Array Slot}
theorem zs_new {k : Nat} (cx : zCx p R s m args meth c D g zk mi d n0 nE nL) (hd : decode (zB mi) pc = .ok (.new k, 3)) (hnx : nx = pc + 3) (hl : ((zMi mi).1, k, a) ∈ zNL) (hr : zRl D g zk al s nL L st ls n σ H locs) (hn : n0 ≤ n) (h : zNew False (zKg p l e R s m args below meth c D g zk al n0 nE nL Q) zk al a nx L st n σ) : W p l e R s m args below meth c H locs (n - n0) (zsz zk n - zsz zk n0) Q (F0 m pc ls (st.map (zcv g.1))) := by
  obtain ⟨hx, hb, hml, hown, hts, hnm, hK, hnst, hao, hR, hkk, hg0, hmi⟩ := cx
  obtain ⟨hP, hS, hL, hLl, hst, hal⟩ := hr
  subst hnx
  unfold zNew at h
  split at h
  rename_i t ci fl hzk
  split at h
  · rename_i hc
    simp only [Bool.and_eq_true, beq_iff_eq] at hc
    obtain ⟨⟨⟨rfl, rfl⟩, rfl⟩, hall⟩ := hc
    obtain ⟨w1, w2, w3, hci, hcn⟩ := zNL_ok _ hl
    dsimp only at w1 w2 w3 hci hcn
    obtain ⟨ty, hty, hnn, hin, hcl⟩ := zcls hci
    obtain ⟨-, hfl, hdef⟩ := hkk n ci fl hzk
    have hKn := hK.1 ci _ hcl
    obtain ⟨hz, hfr⟩ := hal rfl
    have hsz : zsz zk (n + 1) = zsz zk n + fl.length := by simp only [zsz, hzk]
    have hm1 := zsz_mono zk hn
    have hnE := (h (by omega)).1
    have hm2 := zsz_mono zk hnE
    have hown2 : s.vm.findClass (zTf ci).1 = some (D.1 ci) := hKn.2.1
    refine W.newcK (own := zCs (zMi mi).1) (C := (zTf ci).1) (n := (zTf ci).2.2) hx hb hown (by rw [hcn]; exact hts _ (zbig_t w1 rfl)) (by rw [hcn]; exact hts _ (zbig_t w2 rfl)) (by rw [hcn]; exact hts _ (zbig_t w3 rfl)) rfl hd (by rw [hR]; show _ ≤ nE - n0; omega) (by rw [hR]; show _ ≤ zsz zk nE - zsz zk n0; omega) hown2 hz fun H1 kC hkC e1 z1 o1 => ?_
    have e2 : n - n0 + 1 = n + 1 - n0 := by omega
    have e3 : zsz zk n - zsz zk n0 + (zTf ci).2.2 = zsz zk (n + 1) - zsz zk n0 := by omega
    rw [e2, e3]
    refine (h (by omega)).2 H1 locs ls ⟨?_, ⟨Nat.le_trans hS.1 (by omega), fun x h1 h2 => (o1 x (by have := hS.1; omega)).trans (hS.2.1 x h1 h2), hS.2.2⟩, hL, hLl, zs_c1_cons rfl hst, fun _ => ⟨by omega, fun o ho => hfr o (by omega)⟩⟩
    rw [zWl_push]
    refine (hP.kept (fun k x hx => o1 x.1 (by have := (hP k x hx).lt; omega))).app (fun k x hx => ?_)
    have hz0 : k < 1 := (List.getElem?_eq_some_iff.mp hx).1
    rw [show k = 0 by omega] at hx
    cases hx
    have hcell : zcell g zk σ n = .inr (ci, zfs g.1 σ n fl) := by simp only [zcell, hzk]
    rw [hcell]
    refine ⟨_, hcl, (u_born ty hts hin hKn hkC e1 hty).to (fun j hj => ?_)⟩
    have hj2 : j < fl.length := by rw [hfl]; exact hj
    rw [hdef hall j hj2 (ty j) (hty j hj)]
    have h2 : fl[j]? = some fl[j] := List.getElem?_eq_getElem hj2
    have h3 : fl[j] ≤ 1 := by
      have := List.all_eq_true.mp hall fl[j] (List.getElem_mem hj2)
      simpa using this
    simp only [vp_V, List.getD_eq_getElem?_getD, zfs_get _ _ _ h2, h2, Option.getD_some]
    have h4 : fl[j] = 0 ∨ fl[j] = 1 := by omega
    rcases h4 with h4 | h4 <;> rw [h4] <;> simp [zFld, zcv, hfr n (Nat.le_refl n), zdec]
  · exact h.elim
theorem zs_newa {ty : ArrayType} (cx : zCx p R s m args meth c D g zk mi d n0 nE nL) (hk2 : zKok2 zk) (hd : decode (zB mi) pc = .ok (.newarray ty, 2)) (hnx : nx = pc + 2) (ha : (ty = .int ∧ a = 1) ∨ (ty = .byte ∧ a = 2) ∨ (ty = .boolean ∧ a = 3) ∨ (ty = .long ∧ a = 4)) (hr : zRl D g zk al s nL L st ls n σ H locs) (hn : n0 ≤ n) (h : zNewa False (zKg p l e R s m args below meth c D g zk al n0 nE nL Q) zk al a nx L st n σ) : W p l e R s m args below meth c H locs (n - n0) (zsz zk n - zsz zk n0) Q (F0 m pc ls (st.map (zcv g.1))) := by
  obtain ⟨hx, hb, hml, hown, hts, hnm, hK, hnst, hao, hR, hkk, hg0, hmi⟩ := cx
  obtain ⟨hP, hS, hL, hLl, hst, hal⟩ := hr
  subst hnx
  unfold zNewa at h
  split at h
  · rename_i mm r
    split at h
    rename_i t len fl hzk
    split at h
    · rename_i hc
      simp only [Bool.and_eq_true, beq_iff_eq] at hc
      obtain ⟨⟨⟨rfl, rfl⟩, hz⟩, rfl⟩ := hc
      obtain ⟨hsz0, hfr⟩ := hal rfl
      have hl6 := hk2 n
      rw [hzk] at hl6
      dsimp only at hl6
      have hsz : zsz zk (n + 1) = zsz zk n + mm.toNatClampNeg := by
        rcases ha with ⟨-, rfl⟩ | ⟨-, rfl⟩ | ⟨-, rfl⟩ | ⟨-, rfl⟩ <;> simp only [zsz, hzk]
      have hm1 := zsz_mono zk hn
      have hnE := (h (by omega)).1
      have hm2 := zsz_mono zk hnE
      have e2 : n - n0 + 1 = n + 1 - n0 := by omega
      have e3 : zsz zk n - zsz zk n0 + mm.toNatClampNeg = zsz zk (n + 1) - zsz zk n0 := by omega
      have hcb : ∀ t, mm.toNatClampNeg * componentBytes t ≤ 536870912 := fun t => by
        have : componentBytes t ≤ 8 := by cases t <;> simp [componentBytes]
        exact Nat.le_trans (Nat.mul_le_mul hl6 this) (by decide)
      have hh : ∀ (H1 : Heap) (cA : ClassId), H1[g.1 + n]? = some (arrV cA mm.toNatClampNeg (fun _ => defaultValue (newarray.typeOf ty))) → H1.size = g.1 + n + 1 → (∀ q, q < g.1 + n → H1[q]? = H[q]?) → s.vm.findClass ("[" ++ (newarray.typeOf ty).toString) = some cA → W p l e R s m args below meth c H1 locs (n - n0 + 1) (zsz zk n - zsz zk n0 + mm.toNatClampNeg) Q (F0 m (pc + 2) ls (.ref (g.1 + n) :: r.map (zcv g.1))) := by
        intro H1 cA e1 z1 o1 hNm
        rw [e2, e3]
        refine (h (by omega)).2 H1 locs ls ⟨?_, ⟨Nat.le_trans hS.1 (by omega), fun x h1 h2 => (o1 x (by have := hS.1; omega)).trans (hS.2.1 x h1 h2), hS.2.2⟩, hL, hLl, zs_c1_cons rfl (zs_c1_tail hst), fun _ => ⟨by omega, fun o ho => hfr o (by omega)⟩⟩
        rw [zWl_push]
        refine (hP.kept (fun k x hx => o1 x.1 (by have := (hP k x hx).lt; omega))).app (fun k x hx => ?_)
        have hz0 : k < 1 := (List.getElem?_eq_some_iff.mp hx).1
        rw [show k = 0 by omega] at hx
        cases hx
        have hf0 : ∀ j, σ n j = 0 := hfr n (Nat.le_refl n)
        rcases ha with ⟨rfl, rfl⟩ | ⟨rfl, rfl⟩ | ⟨rfl, rfl⟩ | ⟨rfl, rfl⟩
        · have hcell : zcell g zk σ n = .inl (g.2.1, mm.toNatClampNeg, .inl (σ n)) := by simp only [zcell, hzk]
          have hcA : cA = g.2.1 := Option.some.inj (hNm.symm.trans (hK.2 0 _ rfl).2)
          rw [hcell]
          show H1[g.1 + n]? = some (vp_cell _ _)
          rw [e1, hcA, vp_cell_i]
          congr 2
          funext j
          rw [hf0 j]; rfl
        · have hcell : zcell g zk σ n = .inl (g.2.2.1, mm.toNatClampNeg, .inl (σ n)) := by simp only [zcell, hzk]
          have hcA : cA = g.2.2.1 := Option.some.inj (hNm.symm.trans (hK.2 1 _ rfl).2)
          rw [hcell]
          show H1[g.1 + n]? = some (vp_cell _ _)
          rw [e1, hcA, vp_cell_i]
          congr 2
          funext j
          rw [hf0 j]; rfl
        · have hcell : zcell g zk σ n = .inl (g.2.2.2.1, mm.toNatClampNeg, .inl (σ n)) := by simp only [zcell, hzk]
          have hcA : cA = g.2.2.2.1 := Option.some.inj (hNm.symm.trans (hK.2 2 _ rfl).2)
          rw [hcell]
          show H1[g.1 + n]? = some (vp_cell _ _)
          rw [e1, hcA, vp_cell_i]
          congr 2
          funext j
          rw [hf0 j]; rfl
        · have hcell : zcell g zk σ n = .inl (g.2.2.2.2.1, mm.toNatClampNeg, .inr (.inl (fun j => (σ n j).toInt64))) := by simp only [zcell, hzk]
          have hcA : cA = g.2.2.2.2.1 := Option.some.inj (hNm.symm.trans (hK.2 3 _ rfl).2)
          rw [hcell]
          show H1[g.1 + n]? = some (vp_cell _ _)
          rw [e1, hcA, vp_cell_l]
          congr 2
          funext j
          rw [hf0 j]; rfl
      refine va_newaK hx hb ?_ rfl hd rfl (zin_pos hz).1 rfl (hcb _) (by rw [hR]; show _ ≤ nE - n0; omega) (by rw [hR]; show _ ≤ zsz zk nE - zsz zk n0; omega) hsz0 fun H1 cA e1 z1 o1 _ hNm => hh H1 cA e1 z1 o1 hNm
      rcases ha with ⟨rfl, -⟩ | ⟨rfl, -⟩ | ⟨rfl, -⟩ | ⟨rfl, -⟩
      · exact hts _ (zbig_t (w := .arrayClass .int) (by decide +kernel) rfl)
      · exact hts _ (zbig_t (w := .arrayClass .byte) (by decide +kernel) rfl)
      · exact hts _ (zbig_t (w := .arrayClass .boolean) (by decide +kernel) rfl)
      · exact hts _ (zbig_t (w := .arrayClass .long) (by decide +kernel) rfl)
    · exact h.elim
  · exact h.elim
theorem zs_newq {k : Nat} (cx : zCx p R s m args meth c D g zk mi d n0 nE nL) (hk2 : zKok2 zk) (hd : decode (zB mi) pc = .ok (.anewarray k, 3)) (hnx : nx = pc + 3) (hl : ((zMi mi).1, k) ∈ zAL) (hr : zRl D g zk al s nL L st ls n σ H locs) (hn : n0 ≤ n) (h : zNewa False (zKg p l e R s m args below meth c D g zk al n0 nE nL Q) zk al 6 nx L st n σ) : W p l e R s m args below meth c H locs (n - n0) (zsz zk n - zsz zk n0) Q (F0 m pc ls (st.map (zcv g.1))) := by
  obtain ⟨hx, hb, hml, hown, hts, hnm, hK, hnst, hao, hR, hkk, hg0, hmi⟩ := cx
  obtain ⟨hP, hS, hL, hLl, hst, hal⟩ := hr
  subst hnx
  unfold zNewa at h
  split at h
  · rename_i mm r
    split at h
    rename_i t len fl hzk
    split at h
    · rename_i hc
      simp only [Bool.and_eq_true, beq_iff_eq] at hc
      obtain ⟨⟨⟨rfl, rfl⟩, hz⟩, rfl⟩ := hc
      obtain ⟨hsz0, hfr⟩ := hal rfl
      have hl6 := hk2 n
      rw [hzk] at hl6
      dsimp only at hl6
      have hsz : zsz zk (n + 1) = zsz zk n + mm.toNatClampNeg := by simp only [zsz, hzk]
      have hm1 := zsz_mono zk hn
      have hnE := (h (by omega)).1
      have hm2 := zsz_mono zk hnE
      have e2 : n - n0 + 1 = n + 1 - n0 := by omega
      have e3 : zsz zk n - zsz zk n0 + mm.toNatClampNeg = zsz zk (n + 1) - zsz zk n0 := by omega
      refine W.anew hx hb hown (hts _ (zbig_t (zAL_ok _ hl) rfl)) (va_AO.use hao) rfl hd rfl (zin_pos hz).1 (by omega) (by rw [hR]; show _ ≤ nE - n0; omega) (by rw [hR]; show _ ≤ zsz zk nE - zsz zk n0; omega) fun cA kA comp f1 f2 f3 f4 => ?_
      rw [e2, e3, hsz0]
      have o1 : ∀ q : Nat, q < H.size → (H.push ({ cls := cA, slots := Array.replicate mm.toNatClampNeg .null, vm := .none } : Cell))[q]? = H[q]? := fun q hq => by rw [Array.getElem?_push, if_neg (Nat.ne_of_lt hq)]
      have z1 : (H.push ({ cls := cA, slots := Array.replicate mm.toNatClampNeg .null, vm := .none } : Cell)).size = g.1 + n + 1 := by rw [Array.size_push, hsz0]
      have e1 : (H.push ({ cls := cA, slots := Array.replicate mm.toNatClampNeg .null, vm := .none } : Cell))[g.1 + n]? = some (arrV cA mm.toNatClampNeg (fun _ => .null)) := by rw [← hsz0, Array.getElem?_push_size, ← arrV_new]
      generalize H.push ({ cls := cA, slots := Array.replicate mm.toNatClampNeg .null, vm := .none } : Cell) = H1 at o1 z1 e1 ⊢
      refine (h (by omega)).2 H1 locs ls ⟨?_, ⟨Nat.le_trans hS.1 (by omega), fun x h1 h2 => (o1 x (by have := hS.1; omega)).trans (hS.2.1 x h1 h2), hS.2.2⟩, hL, hLl, zs_c1_cons rfl (zs_c1_tail hst), fun _ => ⟨by omega, fun o ho => hfr o (by omega)⟩⟩
      rw [zWl_push]
      refine (hP.kept (fun k x hx => o1 x.1 (by have := (hP k x hx).lt; omega))).app (fun k x hx => ?_)
      have hz0 : k < 1 := (List.getElem?_eq_some_iff.mp hx).1
      rw [show k = 0 by omega] at hx
      cases hx
      have hcell : zcell g zk σ n = .inl (g.2.2.2.2.2, mm.toNatClampNeg, .inr (.inr (.inr (.inr (fun j => zro g.1 (σ n j)))))) := by simp only [zcell, hzk]
      have hcA : cA = g.2.2.2.2.2 := by
        obtain ⟨-, kA', comp', -, -, -, hq⟩ := hK.2 4 _ rfl
        exact Option.some.inj (f1.symm.trans hq)
      rw [hcell]
      show H1[g.1 + n]? = some (vp_cell _ _)
      rw [e1, hcA, vp_cell_q]
      congr 2
      funext j
      rw [hfr n (Nat.le_refl n) j]
      rfl
    · exact h.elim
  · exact h.elim
end ZSOUND3
