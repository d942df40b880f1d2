/-! two parties, each with a man -/
def trO (r : Nat → Int32) (m : Nat) (v : Int32) : Nat → Int32 := if m = 0 then r else trd r (m - 1) v
def stV (c : MC) (j : Int32) (r : Nat → Int32) (s l : Nat) : Int32 := (stR c j (trO (trO r s 4) l (-4))).1
theorem stV_300 {c : MC} {j : Int32} {r : Nat → Int32} {s l : Nat} : v300 (stV c j r s l) := stR_rng
theorem trO_WR {F t m : Nat} {r : Nat → Int32} (h9 : F ≤ 9) (hm : m ≤ F) (v : Int32) (h : WR F t r) : WR F t (trO r m v) := by
  unfold trO
  split
  · exact h
  · exact trd_WR h9 (by omega) v h
theorem trO_cong {m : Nat} {r r' : Nat → Int32} (hm : m ≤ 9) (v : Int32) (h : REq r r') : REq (trO r m v) (trO r' m v) := by
  unfold trO
  split
  · exact h
  · exact trd_cong h (by omega) v
theorem ixN_0 : ixN 0 = -1 := rfl
theorem ixN_p {m : Nat} (h : m ≠ 0) : ixN m = nI (m - 1) := if_neg h
theorem ixN_eq {a b : Nat} (ha : a < 1000) (hb : b < 1000) : ixN a = ixN b ↔ a = b := by
  constructor
  · intro h
    by_cases h1 : a = 0
    · by_cases h2 : b = 0
      · omega
      · rw [h1, ixN_p h2] at h
        exact absurd h.symm (nI_m1 (by omega))
    · by_cases h2 : b = 0
      · rw [h2, ixN_p h1] at h
        exact absurd h (nI_m1 (by omega))
      · rw [ixN_p h1, ixN_p h2] at h
        have := (nI_eq (by omega) (by omega)).mp h
        omega
  · intro h; rw [h]
theorem ixN_lt {k F : Nat} (hk : k < 1000) (hF : F < 1000) : ixN k < nI F ↔ k ≤ F := by
  by_cases h : k = 0
  · subst h
    rw [ixN_0, Int32.lt_iff_toInt_lt, nI_toInt (by omega)]
    have e2 : (-1 : Int32).toInt = -1 := by decide
    omega
  · rw [ixN_p h, Int32.lt_iff_toInt_lt, nI_toInt (by omega), nI_toInt (by omega)]
    omega
theorem c_tireO {d : Nat} {σ : zS} {c : MC} {l : List Int32} {t m : Nat} {r : Nat → Int32} (x : Int32) (h : PC c l t r σ) (hm : m ≤ c.1) {Q : Int32 → zS → Prop} (hq : ∀ σ', Fr scC σ σ' → PC c l t (trO r m x) σ' → Q 0 σ') : ZC (d + 2) 33 [.ref 26, .int (ixN m), .int x] σ Q := by
  by_cases h0 : m = 0
  · subst h0
    rw [ixN_0, c_tire0]
    exact hq σ Fr.rf h
  · rw [ixN_p h0]
    refine c_tireT x h (by omega) (fun σ' f' p' => hq σ' f' ?_)
    unfold trO
    rw [if_neg h0]; exact p'
theorem c_setBoth {d s m : Nat} {σ σ1 : zS} {c : MC} {l : List Int32} {t : Nat} (hc : Ctx c l t σ) (f1 : Fr tC σ σ1) (hs : s ≤ c.1) (hm : m ≤ c.1) {Q : Int32 → zS → Prop} (hq : ∀ σ', Fr scC σ1 σ' → PC c l t (trO (trO (σ 215) s 4) m (-4)) σ' → Q 0 σ') : ZC (d + 3) 165 [.ref 0, .int (ixN s), .int (ixN m)] σ1 Q := by
  refine k_165_0 ?_
  refine c_take2 hc f1 (fun σ2 f2 p2 => ?_)
  refine c_tireO 4 p2 hs (fun σ3 f3 p3 => ?_)
  exact c_tireO (-4) p3 hm (fun σ4 f4 p4 => hq σ4 (Fr.tr f2 (Fr.tr f3 f4)) p4)
/-- the men laid, and the start looked for -/
theorem c_stBoth {d s m : Nat} {σ σ1 : zS} {c : MC} {l : List Int32} {t : Nat} (hc : Ctx c l t σ) (f1 : Fr tC σ σ1) (hs : s ≤ c.1) (hm : m ≤ c.1) (ht : t + 300 < 1073741824) {Q : Int32 → zS → Prop} (hq : ∀ σ', Fr scC σ1 σ' → Q (stV c (σ 214 4) (σ 215) s m) σ') : ZC (d + 6) 165 [.ref 0, .int (ixN s), .int (ixN m)] σ1 (fun _ s1 => ZC (d + 6) 150 [.ref 0, .int 300] s1 Q) := by
  refine c_setBoth (d := d + 3) hc f1 hs hm (fun σ2 f2 p2 => ?_)
  refine c_startWithin (n := 300) (j := σ 214 4) p2 ((f2 0 13 (by decide)).trans ((f1 0 13 (by decide)).trans hc.hj)) (by decide) ht (fun σ4 f4 _ _ => ?_)
  exact hq σ4 (Fr.tr f2 (Fr.sS f4))
theorem r_startBy {e s m : Nat} {σ σ3 σ4 : zS} {c : MC} {l : List Int32} {t : Nat} (hc : Ctx c l t σ) (f3 : Fr tC σ σ3) (f4 : Fr tR σ3 σ4) (hs : s ≤ c.1) (hm : m ≤ c.1) (e0 : σ4 230 0 = ixN s) (e1 : σ4 230 1 = ixN m) (ht : t + 300 < 100000000) {Q : Int32 → zS → Prop} (hq : ∀ σ', Fr pRS σ4 σ' → Q (stV c (σ 214 4) (σ 215) s m) σ') : ZC (e + 228) 255 [.ref 214] σ4 Q := by
  have h9 := hc.h9
  refine k_255_0 ?_
  refine r_begin2 (d := e + 225) hc f3 f4 (fun σ5 f5' f5 p5 e7 e4 e5 => ?_)
  have hreq : REq (σ5 226) (σ 215) := fun i hi => e5 i (by omega)
  have h226 : Fr pRS σ4 σ5 := Fr.mono f5' (fun o i q => by
    unfold pRS pR at q
    rw [Bool.or_eq_false_iff, Bool.or_eq_false_iff] at q
    exact q.1.1)
  have k0 : σ5 230 0 = ixN s := (f5' 230 0 (by decide)).trans e0
  have k1 : σ5 230 1 = ixN m := (f5' 230 1 (by decide)).trans e1
  -- the search from a row
  have fin : ∀ g, REq g (trO (trO (σ 215) s 4) m (-4)) → WR c.1 t g → ZC (e + 227) 228 [.ref 214, .int 300] (zput σ5 226 g) Q := fun g hg hw => by
    have p6 : PF 226 c l t (zput σ5 226 g) := p5.set hw
    refine r_findStart (n := 300) (j := σ 214 4) p6 (by simp only [zput_app, Nat.reduceEqDiff, ↓reduceIte]; exact e7) (by simp only [zput_app, Nat.reduceEqDiff, ↓reduceIte]; exact e4) (by decide) ht (fun σ9 f9 _ => ?_)
    rw [e226]
    have e : (sW c (so (nI c.1) c.2.2.1 (σ 214 4) c.1) 300 0 g 0) = stR c (σ 214 4) (trO (trO (σ 215) s 4) m (-4)) := sW_cong h9 300 0 _ _ 0 hg
    rw [e]
    exact hq σ9 (Fr.tr h226 (Fr.tr (Fr.put (fun i q => by simp [pRS, pR] at q)) f9))
  have hw5 := p5.2.2.2.2.2.2
  have ht4 : REq (trO (trO (σ5 226) s 4) m (-4)) (trO (trO (σ 215) s 4) m (-4)) := trO_cong (by omega) _ (trO_cong (by omega) _ hreq)
  have hwt : WR c.1 t (trO (trO (σ5 226) s 4) m (-4)) := trO_WR h9 hm _ (trO_WR h9 hs _ hw5)
  have fin2 := fin _ ht4 hwt
  unfold trO at fin2
  rw [k0, k1]
  by_cases hs0 : s = 0
  · rw [if_pos hs0] at fin2
    rw [if_pos (by rw [hs0]; rfl)]
    by_cases hm0 : m = 0
    · rw [if_pos hm0, zput_self] at fin2
      rw [if_pos (by rw [hm0]; rfl)]
      exact fin2
    · rw [if_neg hm0] at fin2
      rw [ixN_p hm0, if_neg (nI_m1 (by omega)), if_pos (zin_nI (by omega) (by decide)), zcl (by omega), r_more', if_pos (zin_nI (by omega) (by decide)), zup_eq]
      exact fin2
  · rw [if_neg hs0] at fin2
    rw [ixN_p hs0, if_neg (nI_m1 (by omega)), if_pos (zin_nI (by omega) (by decide)), zcl (by omega), r_more', if_pos (zin_nI (by omega) (by decide)), k1]
    by_cases hm0 : m = 0
    · rw [if_pos hm0] at fin2
      rw [if_pos (by rw [hm0]; rfl), zup_eq]
      exact fin2
    · rw [if_neg hm0] at fin2
      rw [ixN_p hm0, if_neg (nI_m1 (by omega)), if_pos (zin_nI (by omega) (by decide)), zcl (by omega), r_more', if_pos (zin_nI (by omega) (by decide)), zup_eq, zup_eq, zput_twice]
      rw [zput_app, if_pos rfl]
      exact fin2
/-! what a party takes -/
def cho (c : MC) (j : Int32) (r : Nat → Int32) (p s m : Nat) : Nat → Nat × Int32
  | 0 => (if p = 0 then s else m, stV c j r s m)
  | k + 1 => if (if p = 0 then orL 300 (if p = 0 then stV c j r k m else stV c j r s k) < orL 300 (cho c j r p s m k).2 else orL 300 (cho c j r p s m k).2 < orL 300 (if p = 0 then stV c j r k m else stV c j r s k)) then (k, if p = 0 then stV c j r k m else stV c j r s k) else cho c j r p s m k
theorem cho_1 (c : MC) (j : Int32) (r : Nat → Int32) (p s m k : Nat) : cho c j r p s m (k + 1) = if (if p = 0 then orL 300 (if p = 0 then stV c j r k m else stV c j r s k) < orL 300 (cho c j r p s m k).2 else orL 300 (cho c j r p s m k).2 < orL 300 (if p = 0 then stV c j r k m else stV c j r s k)) then (k, if p = 0 then stV c j r k m else stV c j r s k) else cho c j r p s m k := rfl
theorem cho_ok {c : MC} {j : Int32} {r : Nat → Int32} {p s m F : Nat} (hs : s ≤ F) (hm : m ≤ F) : ∀ k, k ≤ F + 1 → (cho c j r p s m k).1 ≤ F ∧ v300 (cho c j r p s m k).2 := by
  intro k
  induction k with
  | zero =>
    intro _
    refine ⟨?_, stV_300⟩
    show (if p = 0 then s else m) ≤ F
    split <;> omega
  | succ k ih =>
    intro hk
    have hi := ih (by omega)
    rw [cho_1]
    by_cases hp0 : p = 0
    · subst hp0
      simp only [↓reduceIte]
      split
      · exact ⟨by show k ≤ F; omega, stV_300⟩
      · exact hi
    · simp only [hp0, ↓reduceIte]
      split
      · exact ⟨by show k ≤ F; omega, stV_300⟩
      · exact hi
theorem c_choice {d p s m : Nat} {σ σ1 : zS} {c : MC} {l : List Int32} {t : Nat} (hc : Ctx c l t σ) (f1 : Fr tC σ σ1) (hp : p < 2) (hs : s ≤ c.1) (hm : m ≤ c.1) (ht : t + 300 < 1073741824) {Q : Int32 → zS → Prop} (hq : ∀ σ', Fr scC σ1 σ' → Q (ixN (cho c (σ 214 4) (σ 215) p s m (c.1 + 1)).1) σ') : ZC (d + 7) 166 [.ref 0, .int (nI p), .int (ixN s), .int (ixN m)] σ1 Q := by
  have h9 := hc.h9
  have h14 : ∀ {σ2}, Fr scC σ1 σ2 → σ2 14 3 = nI c.1 := fun f => (tC_14 (Fr.tr f1 f.cT)).trans hc.h14
  have hloop := z_for (F := c.1 + 1) (P := fun k => ∀ σ2 w8, Fr scC σ1 σ2 → Z (d + 6) 166 Q 36 [.ref 0, .int (nI p), .int (ixN s), .int (ixN m), .int (ixN (if p = 0 then s else m)), .int (ixN (cho c (σ 214 4) (σ 215) p s m k).1), .int (orL 300 (cho c (σ 214 4) (σ 215) p s m k).2), .int (ixN k), w8] [] σ2) (fun k hk ih => ?_) ?_
  · refine k_166_0 ?_
    by_cases hp0 : p = 0
    · rw [if_pos (by rw [hp0]; rfl)]
      refine c_stBoth hc f1 hs hm ht (fun σ2 f2 => ?_)
      rw [s_orL]
      have := hloop σ2 (.retAddr 0) f2
      rw [if_pos hp0] at this
      rw [show (cho c (σ 214 4) (σ 215) p s m 0).1 = s from if_pos hp0] at this
      exact this
    · rw [if_neg (show ¬ (nI p = 0) from fun q => hp0 ((nI_eq (a := p) (b := 0) (by omega) (by decide)).mp q))]
      refine c_stBoth hc f1 hs hm ht (fun σ2 f2 => ?_)
      rw [s_orL]
      have := hloop σ2 (.retAddr 0) f2
      rw [if_neg hp0] at this
      rw [show (cho c (σ 214 4) (σ 215) p s m 0).1 = m from if_neg hp0] at this
      exact this
  · intro σ2 w8 f2
    refine k_166_36 ?_
    rw [h14 f2, if_pos ((ixN_lt (by omega) (by omega)).mpr (by omega)), ixN_1]
    rw [cho_1] at ih
    by_cases hp0 : p = 0
    · subst hp0
      simp only [show (nI 0 = 0) = True from eq_true rfl, ↓reduceIte] at ih ⊢
      refine c_stBoth hc (Fr.tr f1 f2.cT) (by omega) hm ht (fun σ3 f3 => ?_)
      rw [s_orL]
      by_cases hlt : orL 300 (stV c (σ 214 4) (σ 215) k m) < orL 300 (cho c (σ 214 4) (σ 215) 0 s m k).2
      · rw [if_pos hlt] at ih
        rw [if_pos hlt]
        exact ih σ3 _ (Fr.tr f2 f3)
      · rw [if_neg hlt] at ih
        rw [if_neg hlt]
        exact ih σ3 _ (Fr.tr f2 f3)
    · have hn : ¬ (nI p = 0) := fun q => hp0 ((nI_eq (a := p) (b := 0) (by omega) (by decide)).mp q)
      simp only [hn, hp0, ↓reduceIte] at ih ⊢
      refine c_stBoth hc (Fr.tr f1 f2.cT) hs (by omega) ht (fun σ3 f3 => ?_)
      rw [s_orL]
      by_cases hlt : orL 300 (cho c (σ 214 4) (σ 215) p s m k).2 < orL 300 (stV c (σ 214 4) (σ 215) s k)
      · rw [if_pos hlt] at ih
        rw [if_pos hlt]
        exact ih σ3 _ (Fr.tr f2 f3)
      · rw [if_neg hlt] at ih
        rw [if_neg hlt]
        exact ih σ3 _ (Fr.tr f2 f3)
  · intro σ2 w8 f2
    refine k_166_36 ?_
    rw [h14 f2, if_neg (fun q => by have := (ixN_lt (by omega) (by omega)).mp q; omega)]
    exact hq σ2 f2
