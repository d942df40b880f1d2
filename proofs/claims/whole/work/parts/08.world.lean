/-! what a world of objects is in the heap -/
theorem zRt_ok : (List.range 274).all (fun i => (zCode i).all fun e => match e.2.1 with
  | .ireturn => decide (((zMi i).2.2 = some .int ∧ e.2.2.2.2.2.1 = 0) ∨ ((zMi i).2.2 = some .boolean ∧ e.2.2.2.2.2.1 = 1))
  | .return_ => decide ((zMi i).2.2 = none)
  | _ => true) = true := by decide +kernel
abbrev zG : Type := Nat × ClassId × ClassId × ClassId × ClassId × ClassId
def zcv (b : Nat) : Value → Value
  | .ref o => .ref (b + o)
  | v => v
def zro (b : Nat) (v : Int32) : Option Nat := if v = 0 then none else some (b + (v.toNatClampNeg - 1))
def zfs (b : Nat) (σ : zS) (o : Nat) (fl : List Nat) : List Value := fl.mapIdx fun k f => zcv b (zFld o k f σ)
def zcell (g : zG) (zk : zKd) (σ : zS) (o : Nat) : va_E := match zk o with
  | (0, ci, fl) => .inr (ci, zfs g.1 σ o fl)
  | (1, len, _) => .inl (g.2.1, len, .inl (σ o))
  | (2, len, _) => .inl (g.2.2.1, len, .inl (σ o))
  | (3, len, _) => .inl (g.2.2.2.1, len, .inl (σ o))
  | (4, len, _) => .inl (g.2.2.2.2.1, len, .inr (.inl (fun j => (σ o j).toInt64)))
  | (5, len, fl) => .inl (g.2.2.2.2.2, len, .inr (.inr (.inr (.inr (fun j => some (g.1 + fl.getD j 0))))))
  | (_, len, _) => .inl (g.2.2.2.2.2, len, .inr (.inr (.inr (.inr (fun j => zro g.1 (σ o j))))))
def zWl (g : zG) (zk : zKd) (n : Nat) (σ : zS) : va_W := (List.range n).map fun o => (g.1 + o, zcell g zk σ o)
def zTy (g : zG) : List (ClassId × FieldType) := [(g.2.1, .int), (g.2.2.1, .byte), (g.2.2.2.1, .boolean), (g.2.2.2.2.1, .long), (g.2.2.2.2.2, .object "StartedByAYawn$Kept")]
abbrev zA (g : zG) : Nat → Prop := fun q => g.1 ≤ q
def zsz (zk : zKd) : Nat → Nat
  | 0 => 0
  | n + 1 => zsz zk n + (match zk n with
    | (0, _, fl) => fl.length
    | (_, len, _) => len)
theorem zsz_mono (zk : zKd) {a b : Nat} (h : a ≤ b) : zsz zk a ≤ zsz zk b := by
  induction b with
  | zero => rw [show a = 0 by omega]; exact Nat.le_refl _
  | succ b ih =>
    by_cases h1 : a = b + 1
    · rw [h1]; exact Nat.le_refl _
    · exact Nat.le_trans (ih (by omega)) (Nat.le_add_right _ _)
theorem zput_same (σ : zS) (o : Nat) (f : Nat → Int32) : zput σ o f o = f := by simp [zput]
theorem zput_ne (σ : zS) {o o' : Nat} (h : o' ≠ o) (f : Nat → Int32) : zput σ o f o' = σ o' := by simp [zput, h]
theorem zFld_congr {σ τ : zS} {o : Nat} (h : σ o = τ o) (k f : Nat) : zFld o k f σ = zFld o k f τ := by
  unfold zFld
  split <;> simp only [h]
theorem zcell_congr (g : zG) (zk : zKd) {σ τ : zS} {o : Nat} (h : σ o = τ o) : zcell g zk σ o = zcell g zk τ o := by
  unfold zcell
  have h2 : ∀ fl, zfs g.1 σ o fl = zfs g.1 τ o fl := fun fl => by
    unfold zfs
    congr 1
    funext k f
    rw [zFld_congr h]
  split <;> simp only [h, h2]
theorem zWl_get (g : zG) (zk : zKd) (σ : zS) {o n : Nat} (h : o < n) : (zWl g zk n σ)[o]? = some (g.1 + o, zcell g zk σ o) := by
  simp [zWl, List.getElem?_map, List.getElem?_range h]
theorem zWl_len (g : zG) (zk : zKd) (σ : zS) (n : Nat) : (zWl g zk n σ).length = n := by simp [zWl]
theorem zWl_at (g : zG) (zk : zKd) (σ : zS) {i n : Nat} {q : Nat × va_E} (h : (zWl g zk n σ)[i]? = some q) : i < n ∧ q = (g.1 + i, zcell g zk σ i) := by
  have h1 : i < n := by
    have := (List.getElem?_eq_some_iff.mp h).1
    rwa [zWl_len] at this
  refine ⟨h1, ?_⟩
  rw [zWl_get g zk σ h1] at h
  exact (Option.some.inj h).symm
theorem zWl_set (g : zG) (zk : zKd) (σ : zS) {o n : Nat} (h : o < n) (f : Nat → Int32) {x : va_E} (hx : x = zcell g zk (zput σ o f) o) : (zWl g zk n σ).set o (g.1 + o, x) = zWl g zk n (zput σ o f) := by
  subst hx
  apply List.ext_getElem?
  intro i
  by_cases hi : i < n
  · by_cases he : o = i
    · subst he
      rw [List.getElem?_set_self (by rw [zWl_len]; exact hi), zWl_get _ _ _ hi]
    · rw [List.getElem?_set_ne he, zWl_get _ _ _ hi, zWl_get _ _ _ hi, zcell_congr g zk (zput_ne σ (fun h => he h.symm) f)]
  · rw [List.getElem?_eq_none (by rw [List.length_set, zWl_len]; omega), List.getElem?_eq_none (by rw [zWl_len]; omega)]
theorem zWl_D (g : zG) (zk : zKd) (n : Nat) (σ : zS) : va_D (zA g) (zWl g zk n σ) := by
  refine ⟨fun i j p q hp hq h => ?_, fun k q hq => ?_⟩
  · obtain ⟨-, rfl⟩ := zWl_at g zk σ hp
    obtain ⟨-, rfl⟩ := zWl_at g zk σ hq
    exact Nat.add_left_cancel h
  · obtain ⟨-, rfl⟩ := zWl_at g zk σ hq
    exact Nat.le_add_right _ _
theorem zWl_push (g : zG) (zk : zKd) (n : Nat) (σ : zS) : zWl g zk (n + 1) σ = zWl g zk n σ ++ [(g.1 + n, zcell g zk σ n)] := by
  simp [zWl, List.range_succ]
theorem zfs_get (b : Nat) (σ : zS) (o : Nat) {fl : List Nat} {k f : Nat} (h : fl[k]? = some f) : (zfs b σ o fl)[k]? = some (zcv b (zFld o k f σ)) := by
  simp [zfs, List.getElem?_mapIdx, h]
theorem zfs_len (b : Nat) (σ : zS) (o : Nat) (fl : List Nat) : (zfs b σ o fl).length = fl.length := by simp [zfs]
theorem zro_rf (b : Nat) (v : Int32) : va_rf (zro b v) = zcv b (zdec v) := by
  unfold zro zdec
  split <;> rfl
theorem zdec_c1 (v : Int32) : zc1 (zdec v) = true := by
  unfold zdec
  split <;> rfl
theorem zFld_c1 (o k f : Nat) (σ : zS) : zc1 (zFld o k f σ) = true := by
  unfold zFld
  split
  · rfl
  · exact zdec_c1 _
  · rfl
theorem zenc_dec {o : Nat} (h : o < 1000) : zdec (nI (o + 1)) = .ref o := by
  unfold zdec
  rw [if_neg (nI_ne0 (by omega) (by omega)), nI_clamp (by omega)]
  rfl
/-- an object's field set -/
theorem zfs_put (b : Nat) (σ : zS) (o k : Nat) {fl : List Nat} {f : Nat} (h : fl[k]? = some f) (x : Int32) : (zfs b σ o fl).set k (zcv b (zFld o k f (zup σ o k x))) = zfs b (zup σ o k x) o fl := by
  apply List.ext_getElem?
  intro i
  have hk : k < fl.length := (List.getElem?_eq_some_iff.mp h).1
  by_cases hi : i < fl.length
  · by_cases he : k = i
    · subst he
      rw [List.getElem?_set_self (by rw [zfs_len]; exact hi), zfs_get _ _ _ h]
    · rw [List.getElem?_set_ne he]
      have h2 : fl[i]? = some fl[i] := List.getElem?_eq_getElem hi
      rw [zfs_get _ _ _ h2, zfs_get _ _ _ h2]
      have h3 : zup σ o k x o i = σ o i := by
        simp only [zup, zput_same, upd]
        rw [if_neg (fun h => he h.symm)]
      congr 2
      unfold zFld
      split <;> simp only [h3]
  · rw [List.getElem?_eq_none (by rw [List.length_set, zfs_len]; omega), List.getElem?_eq_none (by rw [zfs_len]; omega)]
theorem zin_vp {i : Int32} {n : Nat} (h : zin i n = true) : vp_in i n := by
  simp only [zin, Bool.and_eq_true, Bool.not_eq_true', decide_eq_false_iff_not, decide_eq_true_eq] at h
  intro q
  rcases q with q | q
  · exact h.1 q
  · omega
theorem zin_pos {i : Int32} {n : Nat} (h : zin i n = true) : ¬ i < 0 ∧ i.toNatClampNeg < n := by
  simpa only [zin, Bool.and_eq_true, Bool.not_eq_true', decide_eq_false_iff_not, decide_eq_true_eq] using h
/-! words -/
def zbig : List Cond := lw_tbl.filter goodWord
theorem lw_of_t {w : Cond} (h : w ∈ tables_1) : w ∈ lw_tbl := List.mem_append_right _ h
theorem zbig_l {w : Cond} (h : w ∈ lw_tbl) (hg : goodWord w = true) : w ∈ zbig := List.mem_filter.mpr ⟨h, hg⟩
theorem zbig_t {w : Cond} (h : w ∈ tables_1) (hg : goodWord w = true) : w ∈ zbig := zbig_l (lw_of_t h) hg
theorem zbig_good {w : Cond} (h : w ∈ zbig) : goodWord w = true := (List.mem_filter.mp h).2
def zws (mi : Nat) : List Cond := .code (zY mi) (zB mi) (zMi mi).2.1 (zMi mi).2.2 :: zbig
theorem zu_good (C : String) (T : u_T) (N : Nat) : ∀ w ∈ u_ws C T N, goodWord w = true := by
  intro w hw
  obtain ⟨k, -, rfl⟩ := List.mem_map.mp hw
  unfold u_lay
  split <;> rfl
theorem zcls {a : Nat} (h : a < 13) : ∃ ty : Nat → FieldType, (∀ k, k < (zTf a).2.2 → parseFieldDescriptor ((zTf a).2.1 k).2.2.1 = some (ty k)) ∧ (∀ x, x < (zTf a).2.2 → ∀ y, y < (zTf a).2.2 → x ≠ y → ((zTf a).2.1 x).2.1 ≠ ((zTf a).2.1 y).2.1) ∧ (∀ w ∈ u_ws (zTf a).1 (zTf a).2.1 (zTf a).2.2, w ∈ zbig) ∧ zCl[a]? = some (zTf a) := by
  have h2 : a = 0 ∨ a = 1 ∨ a = 2 ∨ a = 3 ∨ a = 4 ∨ a = 5 ∨ a = 6 ∨ a = 7 ∨ a = 8 ∨ a = 9 ∨ a = 10 ∨ a = 11 ∨ a = 12 := by omega
  rcases h2 with rfl | rfl | rfl | rfl | rfl | rfl | rfl | rfl | rfl | rfl | rfl | rfl | rfl
  · exact ⟨zt0, zt0_ok, zn0, fun w hw => zbig_t (zi0 w hw) (zu_good _ _ _ w hw), rfl⟩
  · exact ⟨zt1, zt1_ok, zn1, fun w hw => zbig_t (zi1 w hw) (zu_good _ _ _ w hw), rfl⟩
  · exact ⟨zt2, zt2_ok, zn2, fun w hw => zbig_t (zi2 w hw) (zu_good _ _ _ w hw), rfl⟩
  · exact ⟨zt3, zt3_ok, zn3, fun w hw => zbig_t (zi3 w hw) (zu_good _ _ _ w hw), rfl⟩
  · exact ⟨zt4, zt4_ok, zn4, fun w hw => zbig_t (zi4 w hw) (zu_good _ _ _ w hw), rfl⟩
  · exact ⟨zt5, zt5_ok, zn5, fun w hw => zbig_t (zi5 w hw) (zu_good _ _ _ w hw), rfl⟩
  · exact ⟨zt6, zt6_ok, zn6, fun w hw => zbig_t (zi6 w hw) (zu_good _ _ _ w hw), rfl⟩
  · exact ⟨zt7, zt7_ok, zn7, fun w hw => zbig_t (zi7 w hw) (zu_good _ _ _ w hw), rfl⟩
  · exact ⟨zt8, zt8_ok, zn8, fun w hw => zbig_t (zi8 w hw) (zu_good _ _ _ w hw), rfl⟩
  · exact ⟨zt9, zt9_ok, zn9, fun w hw => zbig_t (zi9 w hw) (zu_good _ _ _ w hw), rfl⟩
  · exact ⟨zt10, zt10_ok, zn10, fun w hw => zbig_t (zi10 w hw) (zu_good _ _ _ w hw), rfl⟩
  · exact ⟨zt11, zt11_ok, zn11, fun w hw => zbig_t (zi11 w hw) (zu_good _ _ _ w hw), rfl⟩
  · exact ⟨zt12, zt12_ok, zn12, fun w hw => zbig_t (zi12 w hw) (zu_good _ _ _ w hw), rfl⟩
theorem zFd_ok {a b : Nat} (h : a < 13) (hb : b < (zTf a).2.2) : ((zTf a).2.1 b).1 = zCs a := by
  have h2 : ∀ a, a < 13 → ∀ b, b < (zTf a).2.2 → ((zTf a).2.1 b).1 = zCs a := by decide +kernel
  exact h2 a h b hb
/-! locals -/
def zLr (b : Nat) (L : List Value) (ls : Array Slot) : Prop := ∃ lv, lv_has ls L.length lv ∧ ∀ i v, L[i]? = some v → zc1 v = true → (i, zcv b v) ∈ lv
theorem zc1_cat {b : Nat} {v : Value} (h : zc1 v = true) : (zcv b v).category = 1 := by
  cases v <;> first | rfl | cases h
theorem zLr_get {b : Nat} {L : List Value} {ls : Array Slot} (h : zLr b L ls) {i : Nat} {v : Value} (hv : L[i]? = some v) (hc : zc1 v = true) : ls[i]? = some (.val (zcv b v)) := by
  obtain ⟨lv, h1, h2⟩ := h
  exact h1.2.2 _ (h2 i v hv hc)
theorem zLr_set {b : Nat} {L : List Value} {ls' : Array Slot} {i : Nat} {v : Value} {lv : List (Nat × Value)} (hi : i < L.length) (h2 : ∀ i v, L[i]? = some v → zc1 v = true → (i, zcv b v) ∈ lv) (h : lv_has ls' L.length ((i, zcv b v) :: lv.filter (fun q => !(q.1 == i) && !(q.1 + 1 == i && q.2.category == 2)))) : zLr b (L.set i v) ls' := by
  refine ⟨_, by rw [List.length_set]; exact h, fun j w hj hc => ?_⟩
  by_cases he : i = j
  · subst he
    rw [List.getElem?_set_self hi] at hj
    cases hj
    exact List.mem_cons_self
  · rw [List.getElem?_set_ne he] at hj
    refine List.mem_cons_of_mem _ (List.mem_filter.mpr ⟨h2 j w hj hc, ?_⟩)
    have h3 := zc1_cat (b := b) hc
    simp [h3, Ne.symm he]
theorem zLr_entry {b : Nat} {as : List Value} {nL : Nat} (hc : ∀ v ∈ as, zc1 v = true) (hn : as.length ≤ nL) : zLr b (as ++ List.replicate (nL - as.length) (.retAddr 0)) ((lg_sl (as.map (zcv b)) ++ List.replicate (nL - (lg_sl (as.map (zcv b))).length) Slot.unset).toArray) := by
  have h1 : ∀ (vs : List Value), (∀ v ∈ vs, zc1 v = true) → (lg_sl (vs.map (zcv b))).length = vs.length := by
    intro vs h
    induction vs with
    | nil => rfl
    | cons v r ih =>
      have h3 := zc1_cat (b := b) (h v List.mem_cons_self)
      have h4 := ih fun w hw => h w (List.mem_cons_of_mem _ hw)
      simp only [lg_sl, List.map_cons, List.flatMap_cons, h3, List.length_append] at h4 ⊢
      simp [h4]
      omega
  have h2 : ∀ (vs : List Value) (k : Nat), (∀ v ∈ vs, zc1 v = true) → ∀ i v, vs[i]? = some v → (k + i, zcv b v) ∈ lv_args k (vs.map (zcv b)) := by
    intro vs
    induction vs with
    | nil => intro k _ i v h; simp at h
    | cons w r ih =>
      intro k h i v hi
      have h3 := zc1_cat (b := b) (h w List.mem_cons_self)
      simp only [List.map_cons, lv_args, h3]
      cases i with
      | zero =>
        simp only [List.getElem?_cons_zero, Option.some.injEq] at hi
        subst hi
        exact List.mem_cons_self
      | succ i =>
        rw [List.getElem?_cons_succ] at hi
        have h4 := ih (k + 1) (fun w hw => h w (List.mem_cons_of_mem _ hw)) i v hi
        rw [show k + (i + 1) = k + 1 + i by omega]
        exact List.mem_cons_of_mem _ (by simpa using h4)
  refine ⟨lv_args 0 (as.map (zcv b)), ?_, fun i v hv hcv => ?_⟩
  · have h3 := lv_entry (as.map (zcv b)) (n := nL) (by rw [h1 as hc]; exact hn)
    have h4 : (as ++ List.replicate (nL - as.length) (Value.retAddr 0)).length = nL := by simp; omega
    rw [h4]
    exact h3
  · by_cases hi : i < as.length
    · rw [List.getElem?_append_left hi] at hv
      have h3 := h2 as 0 hc i v hv
      rwa [Nat.zero_add] at h3
    · rw [List.getElem?_append_right (by omega)] at hv
      obtain ⟨h0, h3⟩ := List.getElem?_eq_some_iff.mp hv
      rw [List.getElem_replicate] at h3
      subst h3
      cases hcv
