/-! the class's minute: catching, and the whole -/
/-- the class's rule is asked, of the values in object 4 -/
def HK (d : Nat) (rv : (Nat → Int32) → Bool) (σ : zS) : Prop := ∀ σ' : zS, σ' 3 2 = σ 3 2 → σ' 5 = σ 5 → ∀ Q : Int32 → zS → Prop, (∀ σ'', Fr (fun o _ => decide (o = 6)) σ' σ'' → Q (b2i (rv (σ' 4))) σ'') → ZC d 43 [.ref 3] σ' Q
def RVC (rv : (Nat → Int32) → Bool) : Prop := ∀ v v' : Nat → Int32, (∀ i, i < 9 → v i = v' i) → rv v = rv v'
/-- the class's context -/
def CW (W : Nat) (c : MC) (σ : zS) : Prop := σ W 3 = nI c.1 ∧ c.1 ≤ 9 ∧ (∀ f, f < c.1 → σ (W + 1) f = c.2.1 f ∧ σ (W + 2) f = c.2.2.1 f) ∧ σ 3 5 = nI c.2.2.2.2.1 ∧ c.2.2.2.2.1 ≤ 40 ∧ (∀ i, i < c.2.2.2.2.1 → σ 7 i = c.2.2.2.2.2 i)
theorem CW.fr {W : Nat} (hW : W = 14 ∨ W = 23) {c : MC} {σ σ' : zS} (h : CW W c σ) (hf : Fr (pw W) σ σ') : CW W c σ' := by
  obtain ⟨h1, h2, h3, h4, h5, h6⟩ := h
  rcases hW with rfl | rfl
  · refine ⟨(hf 14 3 (by decide)).trans h1, h2, fun f q => ⟨(hf 15 f (by simp [pw])).trans (h3 f q).1, (hf 16 f (by simp [pw])).trans (h3 f q).2⟩, (hf 3 5 (by decide)).trans h4, h5, fun i q => (hf 7 i (by simp [pw])).trans (h6 i q)⟩
  · refine ⟨(hf 23 3 (by decide)).trans h1, h2, fun f q => ⟨(hf 24 f (by simp [pw])).trans (h3 f q).1, (hf 25 f (by simp [pw])).trans (h3 f q).2⟩, (hf 3 5 (by decide)).trans h4, h5, fun i q => (hf 7 i (by simp [pw])).trans (h6 i q)⟩
theorem c_windAt {d : Nat} {σ : zS} {c : MC} {W : Nat} (h : CW W c σ) {t : Nat} (ht : t < 1073741824) (Q : Int32 → zS → Prop) : ZC (d + 1) 42 [.ref 3, .int (nI t)] σ Q = Q (wd c.2.2.2.2.1 c.2.2.2.2.2 t) σ := by
  obtain ⟨-, -, -, h4, h5, h6⟩ := h
  refine s_of (fun Q h => k_42_0 ?_) Q
  unfold wd at h
  by_cases hz : c.2.2.2.2.1 = 0
  · rw [if_pos hz] at h
    rw [h4, hz]
    simp (disch := omega) only [zup_eq, zput_app, zput_twice, upd_same, nI_1, za2, zA2, zm2, za3, zA3, zm3, za4, zA4, zm4, za9, zA9, zm9, za10, zA10, zm10, za18, zA18, zm18, za27, zA27, zm27, za36, zA36, zm36, za48, zA48, zm48, za288, zA288, zm288, zcl, zinT, upd_ne, upd_eq, zlt, znlt, zl2, zn2_, zl3, zn3_, zl5, zn5_, zl9, zn9_, zl10, zn10_, zl16, zn16_, zl20, zn20_, zl40, zn40_, zl60, zn60_, zl76, zn76_, zl80, zn80_, zl288, zn288_, zl300, zn300_, zneg, Nat.reduceEqDiff, Nat.reduceAdd, ↓reduceIte]
    rw [if_neg (by decide)]
    exact h
  · rw [if_neg hz] at h
    have e1 : zrem (nI t) (nI c.2.2.2.2.1) = nI (t % c.2.2.2.2.1) := zrem_nI (by omega) (by omega) (by omega)
    have e2 : t % c.2.2.2.2.1 < c.2.2.2.2.1 := Nat.mod_lt _ (by omega)
    have e3 : ¬ (nI c.2.2.2.2.1 = 0) := nI_ne0 (by omega) (by omega)
    rw [h4, e1]
    have e4 : (0 : Int32) = nI 0 := rfl
    have e5 : (0 < nI c.2.2.2.2.1) = True := by
      rw [e4]; exact zlt (by omega) (by omega)
    simp (disch := omega) only [zup_eq, zput_app, zput_twice, upd_same, nI_1, za2, zA2, zm2, za3, zA3, zm3, za4, zA4, zm4, za9, zA9, zm9, za10, zA10, zm10, za18, zA18, zm18, za27, zA27, zm27, za36, zA36, zm36, za48, zA48, zm48, za288, zA288, zm288, zcl, zinT, upd_ne, upd_eq, zlt, znlt, zl2, zn2_, zl3, zn3_, zl5, zn5_, zl9, zn9_, zl10, zn10_, zl16, zn16_, zl20, zn20_, zl40, zn40_, zl60, zn60_, zl76, zn76_, zl80, zn80_, zl288, zn288_, zl300, zn300_, zneg, Nat.reduceEqDiff, Nat.reduceAdd, ↓reduceIte, e5, e3]
    rw [h6 _ e2]
    exact h
theorem sg_congr {e : Int32} {S S' : Nat → Int32} {f : Nat} (h : S f = S' f) : sg e S f = sg e S' f := by unfold sg; rw [h]
theorem cz_0 {c : MC} {q : Nat → Int32} {ys ms : Int32} {f : Nat} (h9 : c.1 ≤ 9) (h : sg (nI c.1) c.2.2.1 f &&& ys = 0) : cz c q ys ms f = -1 := by
  unfold cz
  rw [h]
  rcases ff_cases (p := ct c.2.2.2.1 (wd c.2.2.2.2.1 c.2.2.2.2.2 (q 46).toNatClampNeg) q 0 ms f) c.1 0 with ⟨h1, -⟩ | ⟨j, -, -, h3, -⟩
  · exact h1
  · unfold ct at h3
    rw [zb_0] at h3
    cases h3
theorem c_causeFor14 {d : Nat} {σ : zS} {f t : Nat} {c : MC} {q : Nat → Int32} {ms seen : Int32} (hc : CW 14 c σ) (hk : HK (d + 2) c.2.2.2.1 σ) (hv : RVC c.2.2.2.1) (hcm : CM 17 c.1 q σ) (hms : σ 14 5 = ms) (hf : f < c.1) (ht : q 46 = nI t) (htb : t < 1073741824) {Q : Int32 → zS → Prop}
    (h : ∀ σ', Fr p46 σ σ' → Q (ff (ct c.2.2.2.1 (wd c.2.2.2.2.1 c.2.2.2.2.2 t) q seen ms f) c.1 0) σ') : ZC (d + 3) 80 [.ref 14, .int (nI f), .int seen] σ Q := by
  obtain ⟨m1, m2, m3, m4, m5⟩ := hcm
  have h9 : c.1 ≤ 9 := hc.2.1
  obtain ⟨a1, a2, a3, a4, a5⟩ := m1 f hf
  refine k_80_0_i14 ?_
  have hw4 : ∀ (g : Nat → Int32), CW 14 c (zput σ 4 g) := fun g => CW.fr (Or.inl rfl) hc (Fr.put (fun i q => by simp [pw] at q))
  simp (disch := omega) only [zup_eq, zput_app, zput_twice, upd_same, nI_1, za2, zA2, zm2, za3, zA3, zm3, za4, zA4, zm4, za9, zA9, zm9, za10, zA10, zm10, za18, zA18, zm18, za27, zA27, zm27, za36, zA36, zm36, za48, zA48, zm48, za288, zA288, zm288, zcl, zinT, upd_ne, upd_eq, zlt, znlt, zl2, zn2_, zl3, zn3_, zl5, zn5_, zl9, zn9_, zl10, zn10_, zl16, zn16_, zl20, zn20_, zl40, zn40_, zl60, zn60_, zl76, zn76_, zl80, zn80_, zl288, zn288_, zl300, zn300_, zneg, Nat.reduceEqDiff, Nat.reduceAdd, ↓reduceIte, s_bitCount, m5, ht, a1, a2]
  rw [c_windAt (hw4 _) htb]
  simp (disch := omega) only [zup_eq, zput_app, zput_twice, upd_same, nI_1, za2, zA2, zm2, za3, zA3, zm3, za4, zA4, zm4, za9, zA9, zm9, za10, zA10, zm10, za18, zA18, zm18, za27, zA27, zm27, za36, zA36, zm36, za48, zA48, zm48, za288, zA288, zm288, zcl, zinT, upd_ne, upd_eq, zlt, znlt, zl2, zn2_, zl3, zn3_, zl5, zn5_, zl9, zn9_, zl10, zn10_, zl16, zn16_, zl20, zn20_, zl40, zn40_, zl60, zn60_, zl76, zn76_, zl80, zn80_, zl288, zn288_, zl300, zn300_, zneg, Nat.reduceEqDiff, Nat.reduceAdd, ↓reduceIte, m5, ht]
  generalize hp : ct c.2.2.2.1 (wd c.2.2.2.2.1 c.2.2.2.2.2 t) q seen ms f = p at h ⊢
  refine z_forI (F := c.1) (I := fun k => ff p c.1 0 = ff p (c.1 - k) k) (P := fun k => ∀ σ1, Fr p46 σ σ1 → σ1 4 0 = q f → σ1 4 2 = q (9 + f) → σ1 4 3 = bc seen → σ1 4 4 = wd c.2.2.2.2.1 c.2.2.2.2.2 t → σ1 4 5 = nI t → σ1 4 6 = nI f → Z (d + 2) 80 Q 74 [.ref 14, .int (nI f), .int seen, .ref 4, .int (nI k)] [] σ1) (fun k hk' hI ih => ?_) ?_ rfl _ ?_ ?_ ?_ ?_ ?_ ?_ ?_
  · intro σ1 fr b0 b2 b3 b4 b5 b6
    refine k_80_74_i14 ?_
    have e3 : σ1 14 3 = nI c.1 := (fr 14 3 (by simp [p46])).trans hc.1
    have e5 : σ1 14 5 = ms := (fr 14 5 (by simp [p46])).trans hms
    have et : σ1 18 k = q k := (fr 18 k (by simp [p46])).trans (m1 k hk').1
    simp (disch := omega) only [zup_eq, zput_app, zput_twice, upd_same, nI_1, za2, zA2, zm2, za3, zA3, zm3, za4, zA4, zm4, za9, zA9, zm9, za10, zA10, zm10, za18, zA18, zm18, za27, zA27, zm27, za36, zA36, zm36, za48, zA48, zm48, za288, zA288, zm288, zcl, zinT, upd_ne, upd_eq, zlt, znlt, zl2, zn2_, zl3, zn3_, zl5, zn5_, zl9, zn9_, zl10, zn10_, zl16, zn16_, zl20, zn20_, zl40, zn40_, zl60, zn60_, zl76, zn76_, zl80, zn80_, zl288, zn288_, zl300, zn300_, zneg, Nat.reduceEqDiff, Nat.reduceAdd, ↓reduceIte, e3, e5, et, s_hasN, b2i_0]
    cases hb : zb seen k
    · simp only [↓reduceIte]
      refine ih ?_ σ1 fr b0 b2 b3 b4 b5 b6
      rw [hI, ff_no hk']
      rw [← hp]; simp [ct, hb]
    · simp only [↓reduceIte, Bool.true_eq_false]
      have fin : ∀ x : Int32, x = b2i (zb ms k) → ZC (d + 2) 43 [.ref 3] (zput σ1 4 (upd (upd (upd (σ1 4) 1 (q k)) 7 (nI k)) 8 x)) (fun v6 s5 => (if v6 = 0 then Z (d + 2) 80 Q 74 [.ref 14, .int (nI f), .int seen, .ref 4, .int (nI (k + 1))] [] s5 else Q (nI k) s5)) := by
        intro x hx
        refine hk _ ?_ ?_ _ (fun σ2 fr2 => ?_)
        · simp (disch := omega) only [zup_eq, zput_app, zput_twice, upd_same, nI_1, za2, zA2, zm2, za3, zA3, zm3, za4, zA4, zm4, za9, zA9, zm9, za10, zA10, zm10, za18, zA18, zm18, za27, zA27, zm27, za36, zA36, zm36, za48, zA48, zm48, za288, zA288, zm288, zcl, zinT, upd_ne, upd_eq, zlt, znlt, zl2, zn2_, zl3, zn3_, zl5, zn5_, zl9, zn9_, zl10, zn10_, zl16, zn16_, zl20, zn20_, zl40, zn40_, zl60, zn60_, zl76, zn76_, zl80, zn80_, zl288, zn288_, zl300, zn300_, zneg, Nat.reduceEqDiff, Nat.reduceAdd, ↓reduceIte]; exact fr 3 2 (by decide)
        · simp (disch := omega) only [zup_eq, zput_app, zput_twice, upd_same, nI_1, za2, zA2, zm2, za3, zA3, zm3, za4, zA4, zm4, za9, zA9, zm9, za10, zA10, zm10, za18, zA18, zm18, za27, zA27, zm27, za36, zA36, zm36, za48, zA48, zm48, za288, zA288, zm288, zcl, zinT, upd_ne, upd_eq, zlt, znlt, zl2, zn2_, zl3, zn3_, zl5, zn5_, zl9, zn9_, zl10, zn10_, zl16, zn16_, zl20, zn20_, zl40, zn40_, zl60, zn60_, zl76, zn76_, zl80, zn80_, zl288, zn288_, zl300, zn300_, zneg, Nat.reduceEqDiff, Nat.reduceAdd, ↓reduceIte]; exact funext fun i => fr 5 i (by simp [p46])
        · have hpk : p k = c.2.2.2.1 ((zput σ1 4 (upd (upd (upd (σ1 4) 1 (q k)) 7 (nI k)) 8 x)) 4) := by
            rw [← hp]
            unfold ct
            rw [hb, Bool.true_and]
            refine hv _ _ (fun i hi => ?_)
            simp only [zput_app, ↓reduceIte]
            have hi2 : i = 0 ∨ i = 1 ∨ i = 2 ∨ i = 3 ∨ i = 4 ∨ i = 5 ∨ i = 6 ∨ i = 7 ∨ i = 8 := by omega
            rcases hi2 with rfl | rfl | rfl | rfl | rfl | rfl | rfl | rfl | rfl <;> simp (disch := omega) only [zup_eq, zput_app, zput_twice, upd_same, nI_1, za2, zA2, zm2, za3, zA3, zm3, za4, zA4, zm4, za9, zA9, zm9, za10, zA10, zm10, za18, zA18, zm18, za27, zA27, zm27, za36, zA36, zm36, za48, zA48, zm48, za288, zA288, zm288, zcl, zinT, upd_ne, upd_eq, zlt, znlt, zl2, zn2_, zl3, zn3_, zl5, zn5_, zl9, zn9_, zl10, zn10_, zl16, zn16_, zl20, zn20_, zl40, zn40_, zl60, zn60_, zl76, zn76_, zl80, zn80_, zl288, zn288_, zl300, zn300_, zneg, Nat.reduceEqDiff, Nat.reduceAdd, ↓reduceIte, vv, b0, b2, b3, b4, b5, b6, ht, hx]
          rw [← hpk]
          have fr3 : Fr p46 σ σ2 := Fr.tr fr (Fr.tr (Fr.put (fun i q => by simp [p46] at q)) (Fr.mono fr2 (fun o i q => by simp [p46] at q ⊢; exact q.2)))
          cases hpp : p k
          · simp only [b2i_f, ↓reduceIte]
            refine ih ?_ σ2 fr3 ?_ ?_ ?_ ?_ ?_ ?_
            · rw [hI, ff_no hk' hpp]
            all_goals
              rw [fr2 4 _ (by decide)]
              simp (disch := omega) only [zup_eq, zput_app, zput_twice, upd_same, nI_1, za2, zA2, zm2, za3, zA3, zm3, za4, zA4, zm4, za9, zA9, zm9, za10, zA10, zm10, za18, zA18, zm18, za27, zA27, zm27, za36, zA36, zm36, za48, zA48, zm48, za288, zA288, zm288, zcl, zinT, upd_ne, upd_eq, zlt, znlt, zl2, zn2_, zl3, zn3_, zl5, zn5_, zl9, zn9_, zl10, zn10_, zl16, zn16_, zl20, zn20_, zl40, zn40_, zl60, zn60_, zl76, zn76_, zl80, zn80_, zl288, zn288_, zl300, zn300_, zneg, Nat.reduceEqDiff, Nat.reduceAdd, ↓reduceIte]
              assumption
          · have h10 : ((1 : Int32) = 0) = False := by decide
            simp only [b2i_t, h10, ↓reduceIte]
            rw [hI, ff_yes hk' hpp] at h
            exact h σ2 fr3
      cases hz : zb ms k
      · simp only [↓reduceIte]; exact fin 0 (by rw [hz]; rfl)
      · simp only [↓reduceIte, Bool.true_eq_false]; exact fin 1 (by rw [hz]; rfl)
  · intro hI σ1 fr b0 b2 b3 b4 b5 b6
    refine k_80_74_i14 ?_
    have e3 : σ1 14 3 = nI c.1 := (fr 14 3 (by simp [p46])).trans hc.1
    simp (disch := omega) only [zup_eq, zput_app, zput_twice, upd_same, nI_1, za2, zA2, zm2, za3, zA3, zm3, za4, zA4, zm4, za9, zA9, zm9, za10, zA10, zm10, za18, zA18, zm18, za27, zA27, zm27, za36, zA36, zm36, za48, zA48, zm48, za288, zA288, zm288, zcl, zinT, upd_ne, upd_eq, zlt, znlt, zl2, zn2_, zl3, zn3_, zl5, zn5_, zl9, zn9_, zl10, zn10_, zl16, zn16_, zl20, zn20_, zl40, zn40_, zl60, zn60_, zl76, zn76_, zl80, zn80_, zl288, zn288_, zl300, zn300_, zneg, Nat.reduceEqDiff, Nat.reduceAdd, ↓reduceIte, e3]
    rw [hI, ff_end] at h
    exact h σ1 fr
  · exact Fr.put (fun i q => by simp [p46] at q)
  all_goals simp (disch := omega) only [zup_eq, zput_app, zput_twice, upd_same, nI_1, za2, zA2, zm2, za3, zA3, zm3, za4, zA4, zm4, za9, zA9, zm9, za10, zA10, zm10, za18, zA18, zm18, za27, zA27, zm27, za36, zA36, zm36, za48, zA48, zm48, za288, zA288, zm288, zcl, zinT, upd_ne, upd_eq, zlt, znlt, zl2, zn2_, zl3, zn3_, zl5, zn5_, zl9, zn9_, zl10, zn10_, zl16, zn16_, zl20, zn20_, zl40, zn40_, zl60, zn60_, zl76, zn76_, zl80, zn80_, zl288, zn288_, zl300, zn300_, zneg, Nat.reduceEqDiff, Nat.reduceAdd, ↓reduceIte]
theorem c_catchAll14 {d : Nat} {σ : zS} {t : Nat} {c : MC} {q : Nat → Int32} (hc : CW 14 c σ) (hk : HK (d + 2) c.2.2.2.1 σ) (hv : RVC c.2.2.2.1) (hcm : CM 17 c.1 q σ) (ht : q 46 = nI t) (htb : t < 1073741824) {Q : Int32 → zS → Prop}
    (h : ∀ σ', Fr (pw 14) σ σ' → CM 17 c.1 (rc c q (σ 14 4) (σ 14 5) c.1) σ' → σ' 14 4 = σ 14 4 → σ' 14 5 = σ 14 5 → σ' 14 6 = bs (fun f => cb c (rc c q (σ 14 4) (σ 14 5) f) (σ 14 4) (σ 14 5) f) c.1 → (∀ i, σ' 22 i = σ 22 i) → Q 0 σ') : ZC (d + 4) 79 [.ref 14] σ Q := by
  generalize hys : σ 14 4 = ys at h
  generalize hms : σ 14 5 = ms at h
  have h9 : c.1 ≤ 9 := hc.2.1
  refine k_79_0_i14 ?_
  have loop : ∀ others : Int32, (∀ f, f < c.1 → zb others f = false → sg (nI c.1) c.2.2.1 f &&& ys = 0 ∨ zb (q 45 ||| ys) f = true) → (∀ f, f < c.1 → zb others f = true → zb (q 45 ||| ys) f = false) → ∀ w3 w4, Z (d + 3) 79 Q 30 [.ref 14, .int others, .int (nI 0), w3, w4] [] (zput σ 14 (upd (σ 14) 6 0)) := by
    intro others ho1 ho2 w3 w4
    refine z_for (F := c.1) (P := fun k => ∀ σ1, Fr (pw 14) σ σ1 → CM 17 c.1 (rc c q ys ms k) σ1 → σ1 14 4 = ys → σ1 14 5 = ms → σ1 14 6 = bs (fun f => cb c (rc c q ys ms f) ys ms f) k → (∀ i, σ1 22 i = σ 22 i) → ∀ w3 w4, Z (d + 3) 79 Q 30 [.ref 14, .int others, .int (nI k), w3, w4] [] σ1) (fun k hk' ih => ?_) ?_ _ ?_ ?_ ?_ ?_ ?_ ?_ w3 w4
    · intro σ1 f1 f2 f3 f4 f5 f6 w3 w4
      have hc1 := CW.fr (Or.inl rfl) hc f1
      have hcm1 := f2
      obtain ⟨m1, m2, m3, m4, m5⟩ := f2
      obtain ⟨a1, a2, a3, a4, a5⟩ := m1 k hk'
      have h45 : rc c q ys ms k 45 = q 45 := rc_hi (Or.inr (by omega)) k (by omega)
      have h46 : rc c q ys ms k 46 = nI t := by rw [rc_hi (Or.inr (by omega)) k (by omega)]; exact ht
      have no : cb c (rc c q ys ms k) ys ms k = false → ∀ w3 w4, Z (d + 3) 79 Q 30 [.ref 14, .int others, .int (nI (k + 1)), w3, w4] [] σ1 := by
        intro hcb w3 w4
        refine ih σ1 f1 ?_ f3 f4 ?_ f6 w3 w4
        · unfold rc; rw [hcb]; exact hcm1
        · rw [bs_1, hcb]; exact f5
      refine k_79_30_i14 ?_
      have hsg : sg (nI c.1) (σ1 16) k = sg (nI c.1) c.2.2.1 k := sg_congr (hc1.2.2.1 k hk').2
      simp (disch := omega) only [zup_eq, zput_app, zput_twice, upd_same, nI_1, za2, zA2, zm2, za3, zA3, zm3, za4, zA4, zm4, za9, zA9, zm9, za10, zA10, zm10, za18, zA18, zm18, za27, zA27, zm27, za36, zA36, zm36, za48, zA48, zm48, za288, zA288, zm288, zcl, zinT, upd_ne, upd_eq, zlt, znlt, zl2, zn2_, zl3, zn3_, zl5, zn5_, zl9, zn9_, zl10, zn10_, zl16, zn16_, zl20, zn20_, zl40, zn40_, zl60, zn60_, zl76, zn76_, zl80, zn80_, zl288, zn288_, zl300, zn300_, zneg, Nat.reduceEqDiff, Nat.reduceAdd, ↓reduceIte, hc1.1, s_hasN, b2i_0, f3, c_sight14, hsg, a3]
      cases hz : zb others k
      · simp only [↓reduceIte]
        refine no ?_ _ _
        rcases ho1 k hk' hz with e | e
        · unfold cb; rw [cz_0 h9 e]; simp
        · unfold cb; rw [h45, e]; simp
      · simp only [↓reduceIte, Bool.true_eq_false]
        have hz2 := ho2 k hk' hz
        by_cases hs : sg (nI c.1) c.2.2.1 k &&& ys = 0
        · rw [if_pos hs]
          refine no ?_ _ _
          unfold cb; rw [cz_0 h9 hs]; simp
        · rw [if_neg hs]
          by_cases hd : rc c q ys ms k (18 + k) = -1
          · rw [if_pos hd]
            refine c_causeFor14 hc1 (fun σ' q1 q2 => hk σ' (q1.trans (f1 3 2 (by decide))) (q2.trans (funext fun i => f1 5 i (by simp [pw])))) hv hcm1 f4 hk' h46 htb (fun σ2 fr2 => ?_)
            have hcz : ff (ct c.2.2.2.1 (wd c.2.2.2.2.1 c.2.2.2.2.2 t) (rc c q ys ms k) (sg (nI c.1) c.2.2.1 k &&& ys) ms k) c.1 0 = cz c (rc c q ys ms k) ys ms k := by
              unfold cz; rw [h46, zcl (by omega)]
            rw [hcz]
            have hcb : cb c (rc c q ys ms k) ys ms k = !decide (cz c (rc c q ys ms k) ys ms k = -1) := by
              unfold cb
              rw [h45, hz2, hd]; simp
            have fw2 : Fr (pw 14) σ1 σ2 := Fr.mono fr2 (fun o i q => by simp only [pw, p46, decide_eq_false_iff_not] at q ⊢; omega)
            have hcm2 : CM 17 c.1 (rc c q ys ms k) σ2 := CM.fr hcm1 fr2 (fun o i h1 h2 => by simp [p46]; omega)
            have hc2 := CW.fr (Or.inl rfl) hc1 fw2
            by_cases hq : cz c (rc c q ys ms k) ys ms k = -1
            · rw [if_pos hq]
              have hcbf : cb c (rc c q ys ms k) ys ms k = false := by rw [hcb, hq]; rfl
              refine ih σ2 (Fr.tr f1 fw2) ?_ ?_ ?_ ?_ ?_ _ _
              · unfold rc; rw [hcbf]; exact hcm2
              · exact (fr2 14 4 (by decide)).trans f3
              · exact (fr2 14 5 (by decide)).trans f4
              · rw [bs_1, hcbf]; exact (fr2 14 6 (by decide)).trans f5
              · intro i; exact (fr2 22 i (by simp [p46])).trans (f6 i)
            · rw [if_neg hq]
              have e6 : σ2 17 6 = nI t := by rw [hcm2.2.2.2.2]; exact h46
              rw [e6, (hc2.2.2.1 k hk').1]
              refine c_plan14 hcm2 h9 hk' _ _ (Or.inl rfl) (fun σ3 fr3 c3 => ?_)
              simp (disch := omega) only [zup_eq, zput_app, zput_twice, upd_same, nI_1, za2, zA2, zm2, za3, zA3, zm3, za4, zA4, zm4, za9, zA9, zm9, za10, zA10, zm10, za18, zA18, zm18, za27, zA27, zm27, za36, zA36, zm36, za48, zA48, zm48, za288, zA288, zm288, zcl, zinT, upd_ne, upd_eq, zlt, znlt, zl2, zn2_, zl3, zn3_, zl5, zn5_, zl9, zn9_, zl10, zn10_, zl16, zn16_, zl20, zn20_, zl40, zn40_, zl60, zn60_, zl76, zn76_, zl80, zn80_, zl288, zn288_, zl300, zn300_, zneg, Nat.reduceEqDiff, Nat.reduceAdd, ↓reduceIte, s_bit]
              have hcbt : cb c (rc c q ys ms k) ys ms k = true := by rw [hcb]; simp [hq]
              have fw3 := Fr.pm_pw (W := 14) fr3
              have g6 : σ3 14 6 = bs (fun f => cb c (rc c q ys ms f) ys ms f) k := ((fr3 14 6 (by decide)).trans (fr2 14 6 (by decide))).trans f5
              refine ih _ (Fr.tr f1 (Fr.tr fw2 (Fr.tr fw3 (Fr.put (fun i q => ?_))))) ?_ ?_ ?_ ?_ ?_ _ _
              · have hi : i ≠ 6 := by rintro rfl; simp [pw] at q
                rw [upd_ne hi]
              · refine CM.fr (p := fun o _ => decide (o = 14)) (r := rc c q ys ms (k + 1)) ?_ (Fr.put (fun i q => by simp at q)) (fun o i h1 h2 => by simp; omega)
                conv => arg 3; unfold rc
                rw [hcbt]
                simp only [↓reduceIte]
                rw [ht]
                exact c3
              · simp (disch := omega) only [zup_eq, zput_app, zput_twice, upd_same, nI_1, za2, zA2, zm2, za3, zA3, zm3, za4, zA4, zm4, za9, zA9, zm9, za10, zA10, zm10, za18, zA18, zm18, za27, zA27, zm27, za36, zA36, zm36, za48, zA48, zm48, za288, zA288, zm288, zcl, zinT, upd_ne, upd_eq, zlt, znlt, zl2, zn2_, zl3, zn3_, zl5, zn5_, zl9, zn9_, zl10, zn10_, zl16, zn16_, zl20, zn20_, zl40, zn40_, zl60, zn60_, zl76, zn76_, zl80, zn80_, zl288, zn288_, zl300, zn300_, zneg, Nat.reduceEqDiff, Nat.reduceAdd, ↓reduceIte]; exact ((fr3 14 4 (by decide)).trans (fr2 14 4 (by decide))).trans f3
              · simp (disch := omega) only [zup_eq, zput_app, zput_twice, upd_same, nI_1, za2, zA2, zm2, za3, zA3, zm3, za4, zA4, zm4, za9, zA9, zm9, za10, zA10, zm10, za18, zA18, zm18, za27, zA27, zm27, za36, zA36, zm36, za48, zA48, zm48, za288, zA288, zm288, zcl, zinT, upd_ne, upd_eq, zlt, znlt, zl2, zn2_, zl3, zn3_, zl5, zn5_, zl9, zn9_, zl10, zn10_, zl16, zn16_, zl20, zn20_, zl40, zn40_, zl60, zn60_, zl76, zn76_, zl80, zn80_, zl288, zn288_, zl300, zn300_, zneg, Nat.reduceEqDiff, Nat.reduceAdd, ↓reduceIte]; exact ((fr3 14 5 (by decide)).trans (fr2 14 5 (by decide))).trans f4
              · simp (disch := omega) only [zup_eq, zput_app, zput_twice, upd_same, nI_1, za2, zA2, zm2, za3, zA3, zm3, za4, zA4, zm4, za9, zA9, zm9, za10, zA10, zm10, za18, zA18, zm18, za27, zA27, zm27, za36, zA36, zm36, za48, zA48, zm48, za288, zA288, zm288, zcl, zinT, upd_ne, upd_eq, zlt, znlt, zl2, zn2_, zl3, zn3_, zl5, zn5_, zl9, zn9_, zl10, zn10_, zl16, zn16_, zl20, zn20_, zl40, zn40_, zl60, zn60_, zl76, zn76_, zl80, zn80_, zl288, zn288_, zl300, zn300_, zneg, Nat.reduceEqDiff, Nat.reduceAdd, ↓reduceIte]
                rw [bs_1, hcbt, g6]; rfl
              · intro i
                simp (disch := omega) only [zup_eq, zput_app, zput_twice, upd_same, nI_1, za2, zA2, zm2, za3, zA3, zm3, za4, zA4, zm4, za9, zA9, zm9, za10, zA10, zm10, za18, zA18, zm18, za27, zA27, zm27, za36, zA36, zm36, za48, zA48, zm48, za288, zA288, zm288, zcl, zinT, upd_ne, upd_eq, zlt, znlt, zl2, zn2_, zl3, zn3_, zl5, zn5_, zl9, zn9_, zl10, zn10_, zl16, zn16_, zl20, zn20_, zl40, zn40_, zl60, zn60_, zl76, zn76_, zl80, zn80_, zl288, zn288_, zl300, zn300_, zneg, Nat.reduceEqDiff, Nat.reduceAdd, ↓reduceIte]
                exact ((fr3 22 i (by simp [pm])).trans (fr2 22 i (by simp [p46]))).trans (f6 i)
          · rw [if_neg hd]
            refine no ?_ _ _
            unfold cb; simp [hd]
    · intro σ1 f1 f2 f3 f4 f5 f6 w3 w4
      refine k_79_30_i14 ?_
      have hc1 := CW.fr (Or.inl rfl) hc f1
      simp (disch := omega) only [zup_eq, zput_app, zput_twice, upd_same, nI_1, za2, zA2, zm2, za3, zA3, zm3, za4, zA4, zm4, za9, zA9, zm9, za10, zA10, zm10, za18, zA18, zm18, za27, zA27, zm27, za36, zA36, zm36, za48, zA48, zm48, za288, zA288, zm288, zcl, zinT, upd_ne, upd_eq, zlt, znlt, zl2, zn2_, zl3, zn3_, zl5, zn5_, zl9, zn9_, zl10, zn10_, zl16, zn16_, zl20, zn20_, zl40, zn40_, zl60, zn60_, zl76, zn76_, zl80, zn80_, zl288, zn288_, zl300, zn300_, zneg, Nat.reduceEqDiff, Nat.reduceAdd, ↓reduceIte, hc1.1]
      exact h σ1 f1 f2 f3 f4 f5 f6
    · refine Fr.put (fun i q => ?_)
      have hi : i ≠ 6 := by rintro rfl; simp [pw] at q
      rw [upd_ne hi]
    · exact CM.fr (p := fun o _ => decide (o = 14)) hcm (Fr.put (fun i q => by simp at q)) (fun o i h1 h2 => by simp; omega)
    · simp (disch := omega) only [zup_eq, zput_app, zput_twice, upd_same, nI_1, za2, zA2, zm2, za3, zA3, zm3, za4, zA4, zm4, za9, zA9, zm9, za10, zA10, zm10, za18, zA18, zm18, za27, zA27, zm27, za36, zA36, zm36, za48, zA48, zm48, za288, zA288, zm288, zcl, zinT, upd_ne, upd_eq, zlt, znlt, zl2, zn2_, zl3, zn3_, zl5, zn5_, zl9, zn9_, zl10, zn10_, zl16, zn16_, zl20, zn20_, zl40, zn40_, zl60, zn60_, zl76, zn76_, zl80, zn80_, zl288, zn288_, zl300, zn300_, zneg, Nat.reduceEqDiff, Nat.reduceAdd, ↓reduceIte]; exact hys
    · simp (disch := omega) only [zup_eq, zput_app, zput_twice, upd_same, nI_1, za2, zA2, zm2, za3, zA3, zm3, za4, zA4, zm4, za9, zA9, zm9, za10, zA10, zm10, za18, zA18, zm18, za27, zA27, zm27, za36, zA36, zm36, za48, zA48, zm48, za288, zA288, zm288, zcl, zinT, upd_ne, upd_eq, zlt, znlt, zl2, zn2_, zl3, zn3_, zl5, zn5_, zl9, zn9_, zl10, zn10_, zl16, zn16_, zl20, zn20_, zl40, zn40_, zl60, zn60_, zl76, zn76_, zl80, zn80_, zl288, zn288_, zl300, zn300_, zneg, Nat.reduceEqDiff, Nat.reduceAdd, ↓reduceIte]; exact hms
    · simp (disch := omega) only [zup_eq, zput_app, zput_twice, upd_same, nI_1, za2, zA2, zm2, za3, zA3, zm3, za4, zA4, zm4, za9, zA9, zm9, za10, zA10, zm10, za18, zA18, zm18, za27, zA27, zm27, za36, zA36, zm36, za48, zA48, zm48, za288, zA288, zm288, zcl, zinT, upd_ne, upd_eq, zlt, znlt, zl2, zn2_, zl3, zn3_, zl5, zn5_, zl9, zn9_, zl10, zn10_, zl16, zn16_, zl20, zn20_, zl40, zn40_, zl60, zn60_, zl76, zn76_, zl80, zn80_, zl288, zn288_, zl300, zn300_, zneg, Nat.reduceEqDiff, Nat.reduceAdd, ↓reduceIte]; rfl
    · intro i; simp (disch := omega) only [zup_eq, zput_app, zput_twice, upd_same, nI_1, za2, zA2, zm2, za3, zA3, zm3, za4, zA4, zm4, za9, zA9, zm9, za10, zA10, zm10, za18, zA18, zm18, za27, zA27, zm27, za36, zA36, zm36, za48, zA48, zm48, za288, zA288, zm288, zcl, zinT, upd_ne, upd_eq, zlt, znlt, zl2, zn2_, zl3, zn3_, zl5, zn5_, zl9, zn9_, zl10, zn10_, zl16, zn16_, zl20, zn20_, zl40, zn40_, zl60, zn60_, zl76, zn76_, zl80, zn80_, zl288, zn288_, zl300, zn300_, zneg, Nat.reduceEqDiff, Nat.reduceAdd, ↓reduceIte]
  by_cases hy0 : ys = 0
  · simp (disch := omega) only [zup_eq, zput_app, zput_twice, upd_same, nI_1, za2, zA2, zm2, za3, zA3, zm3, za4, zA4, zm4, za9, zA9, zm9, za10, zA10, zm10, za18, zA18, zm18, za27, zA27, zm27, za36, zA36, zm36, za48, zA48, zm48, za288, zA288, zm288, zcl, zinT, upd_ne, upd_eq, zlt, znlt, zl2, zn2_, zl3, zn3_, zl5, zn5_, zl9, zn9_, zl10, zn10_, zl16, zn16_, zl20, zn20_, zl40, zn40_, zl60, zn60_, zl76, zn76_, zl80, zn80_, zl288, zn288_, zl300, zn300_, zneg, Nat.reduceEqDiff, Nat.reduceAdd, ↓reduceIte, hys, hy0]
    refine loop 0 (fun f hf _ => Or.inl ?_) (fun f hf q => by rw [zb_0] at q; cases q) _ _
    rw [hy0]; exact Int32.and_zero
  · simp (disch := omega) only [zup_eq, zput_app, zput_twice, upd_same, nI_1, za2, zA2, zm2, za3, zA3, zm3, za4, zA4, zm4, za9, zA9, zm9, za10, zA10, zm10, za18, zA18, zm18, za27, zA27, zm27, za36, zA36, zm36, za48, zA48, zm48, za288, zA288, zm288, zcl, zinT, upd_ne, upd_eq, zlt, znlt, zl2, zn2_, zl3, zn3_, zl5, zn5_, zl9, zn9_, zl10, zn10_, zl16, zn16_, zl20, zn20_, zl40, zn40_, zl60, zn60_, zl76, zn76_, zl80, zn80_, zl288, zn288_, zl300, zn300_, zneg, Nat.reduceEqDiff, Nat.reduceAdd, ↓reduceIte, hys, hy0, c_present14, hc.1, hcm.2.2.2.1]
    refine loop _ (fun f hf q' => Or.inr ?_) (fun f hf q' => ?_) _ _
    · rw [zb_and, zb_and, zb_all _ h9 f (by omega), zb_not (by omega), zb_not (by omega)] at q'
      rw [zb_or]
      simp [hf] at q'
      cases h1 : zb (q 45) f <;> simp_all
    · rw [zb_and, zb_and, zb_all _ h9 f (by omega), zb_not (by omega), zb_not (by omega)] at q'
      rw [zb_or]
      simp [hf] at q'
      simp_all
theorem c_causeFor23 {d : Nat} {σ : zS} {f t : Nat} {c : MC} {q : Nat → Int32} {ms seen : Int32} (hc : CW 23 c σ) (hk : HK (d + 2) c.2.2.2.1 σ) (hv : RVC c.2.2.2.1) (hcm : CM 26 c.1 q σ) (hms : σ 23 5 = ms) (hf : f < c.1) (ht : q 46 = nI t) (htb : t < 1073741824) {Q : Int32 → zS → Prop}
    (h : ∀ σ', Fr p46 σ σ' → Q (ff (ct c.2.2.2.1 (wd c.2.2.2.2.1 c.2.2.2.2.2 t) q seen ms f) c.1 0) σ') : ZC (d + 3) 80 [.ref 23, .int (nI f), .int seen] σ Q := by
  obtain ⟨m1, m2, m3, m4, m5⟩ := hcm
  have h9 : c.1 ≤ 9 := hc.2.1
  obtain ⟨a1, a2, a3, a4, a5⟩ := m1 f hf
  refine k_80_0_i23 ?_
  have hw4 : ∀ (g : Nat → Int32), CW 23 c (zput σ 4 g) := fun g => CW.fr (Or.inr rfl) hc (Fr.put (fun i q => by simp [pw] at q))
  simp (disch := omega) only [zup_eq, zput_app, zput_twice, upd_same, nI_1, za2, zA2, zm2, za3, zA3, zm3, za4, zA4, zm4, za9, zA9, zm9, za10, zA10, zm10, za18, zA18, zm18, za27, zA27, zm27, za36, zA36, zm36, za48, zA48, zm48, za288, zA288, zm288, zcl, zinT, upd_ne, upd_eq, zlt, znlt, zl2, zn2_, zl3, zn3_, zl5, zn5_, zl9, zn9_, zl10, zn10_, zl16, zn16_, zl20, zn20_, zl40, zn40_, zl60, zn60_, zl76, zn76_, zl80, zn80_, zl288, zn288_, zl300, zn300_, zneg, Nat.reduceEqDiff, Nat.reduceAdd, ↓reduceIte, s_bitCount, m5, ht, a1, a2]
  rw [c_windAt (hw4 _) htb]
  simp (disch := omega) only [zup_eq, zput_app, zput_twice, upd_same, nI_1, za2, zA2, zm2, za3, zA3, zm3, za4, zA4, zm4, za9, zA9, zm9, za10, zA10, zm10, za18, zA18, zm18, za27, zA27, zm27, za36, zA36, zm36, za48, zA48, zm48, za288, zA288, zm288, zcl, zinT, upd_ne, upd_eq, zlt, znlt, zl2, zn2_, zl3, zn3_, zl5, zn5_, zl9, zn9_, zl10, zn10_, zl16, zn16_, zl20, zn20_, zl40, zn40_, zl60, zn60_, zl76, zn76_, zl80, zn80_, zl288, zn288_, zl300, zn300_, zneg, Nat.reduceEqDiff, Nat.reduceAdd, ↓reduceIte, m5, ht]
  generalize hp : ct c.2.2.2.1 (wd c.2.2.2.2.1 c.2.2.2.2.2 t) q seen ms f = p at h ⊢
  refine z_forI (F := c.1) (I := fun k => ff p c.1 0 = ff p (c.1 - k) k) (P := fun k => ∀ σ1, Fr p46 σ σ1 → σ1 4 0 = q f → σ1 4 2 = q (9 + f) → σ1 4 3 = bc seen → σ1 4 4 = wd c.2.2.2.2.1 c.2.2.2.2.2 t → σ1 4 5 = nI t → σ1 4 6 = nI f → Z (d + 2) 80 Q 74 [.ref 23, .int (nI f), .int seen, .ref 4, .int (nI k)] [] σ1) (fun k hk' hI ih => ?_) ?_ rfl _ ?_ ?_ ?_ ?_ ?_ ?_ ?_
  · intro σ1 fr b0 b2 b3 b4 b5 b6
    refine k_80_74_i23 ?_
    have e3 : σ1 23 3 = nI c.1 := (fr 23 3 (by simp [p46])).trans hc.1
    have e5 : σ1 23 5 = ms := (fr 23 5 (by simp [p46])).trans hms
    have et : σ1 27 k = q k := (fr 27 k (by simp [p46])).trans (m1 k hk').1
    simp (disch := omega) only [zup_eq, zput_app, zput_twice, upd_same, nI_1, za2, zA2, zm2, za3, zA3, zm3, za4, zA4, zm4, za9, zA9, zm9, za10, zA10, zm10, za18, zA18, zm18, za27, zA27, zm27, za36, zA36, zm36, za48, zA48, zm48, za288, zA288, zm288, zcl, zinT, upd_ne, upd_eq, zlt, znlt, zl2, zn2_, zl3, zn3_, zl5, zn5_, zl9, zn9_, zl10, zn10_, zl16, zn16_, zl20, zn20_, zl40, zn40_, zl60, zn60_, zl76, zn76_, zl80, zn80_, zl288, zn288_, zl300, zn300_, zneg, Nat.reduceEqDiff, Nat.reduceAdd, ↓reduceIte, e3, e5, et, s_hasN, b2i_0]
    cases hb : zb seen k
    · simp only [↓reduceIte]
      refine ih ?_ σ1 fr b0 b2 b3 b4 b5 b6
      rw [hI, ff_no hk']
      rw [← hp]; simp [ct, hb]
    · simp only [↓reduceIte, Bool.true_eq_false]
      have fin : ∀ x : Int32, x = b2i (zb ms k) → ZC (d + 2) 43 [.ref 3] (zput σ1 4 (upd (upd (upd (σ1 4) 1 (q k)) 7 (nI k)) 8 x)) (fun v6 s5 => (if v6 = 0 then Z (d + 2) 80 Q 74 [.ref 23, .int (nI f), .int seen, .ref 4, .int (nI (k + 1))] [] s5 else Q (nI k) s5)) := by
        intro x hx
        refine hk _ ?_ ?_ _ (fun σ2 fr2 => ?_)
        · simp (disch := omega) only [zup_eq, zput_app, zput_twice, upd_same, nI_1, za2, zA2, zm2, za3, zA3, zm3, za4, zA4, zm4, za9, zA9, zm9, za10, zA10, zm10, za18, zA18, zm18, za27, zA27, zm27, za36, zA36, zm36, za48, zA48, zm48, za288, zA288, zm288, zcl, zinT, upd_ne, upd_eq, zlt, znlt, zl2, zn2_, zl3, zn3_, zl5, zn5_, zl9, zn9_, zl10, zn10_, zl16, zn16_, zl20, zn20_, zl40, zn40_, zl60, zn60_, zl76, zn76_, zl80, zn80_, zl288, zn288_, zl300, zn300_, zneg, Nat.reduceEqDiff, Nat.reduceAdd, ↓reduceIte]; exact fr 3 2 (by decide)
        · simp (disch := omega) only [zup_eq, zput_app, zput_twice, upd_same, nI_1, za2, zA2, zm2, za3, zA3, zm3, za4, zA4, zm4, za9, zA9, zm9, za10, zA10, zm10, za18, zA18, zm18, za27, zA27, zm27, za36, zA36, zm36, za48, zA48, zm48, za288, zA288, zm288, zcl, zinT, upd_ne, upd_eq, zlt, znlt, zl2, zn2_, zl3, zn3_, zl5, zn5_, zl9, zn9_, zl10, zn10_, zl16, zn16_, zl20, zn20_, zl40, zn40_, zl60, zn60_, zl76, zn76_, zl80, zn80_, zl288, zn288_, zl300, zn300_, zneg, Nat.reduceEqDiff, Nat.reduceAdd, ↓reduceIte]; exact funext fun i => fr 5 i (by simp [p46])
        · have hpk : p k = c.2.2.2.1 ((zput σ1 4 (upd (upd (upd (σ1 4) 1 (q k)) 7 (nI k)) 8 x)) 4) := by
            rw [← hp]
            unfold ct
            rw [hb, Bool.true_and]
            refine hv _ _ (fun i hi => ?_)
            simp only [zput_app, ↓reduceIte]
            have hi2 : i = 0 ∨ i = 1 ∨ i = 2 ∨ i = 3 ∨ i = 4 ∨ i = 5 ∨ i = 6 ∨ i = 7 ∨ i = 8 := by omega
            rcases hi2 with rfl | rfl | rfl | rfl | rfl | rfl | rfl | rfl | rfl <;> simp (disch := omega) only [zup_eq, zput_app, zput_twice, upd_same, nI_1, za2, zA2, zm2, za3, zA3, zm3, za4, zA4, zm4, za9, zA9, zm9, za10, zA10, zm10, za18, zA18, zm18, za27, zA27, zm27, za36, zA36, zm36, za48, zA48, zm48, za288, zA288, zm288, zcl, zinT, upd_ne, upd_eq, zlt, znlt, zl2, zn2_, zl3, zn3_, zl5, zn5_, zl9, zn9_, zl10, zn10_, zl16, zn16_, zl20, zn20_, zl40, zn40_, zl60, zn60_, zl76, zn76_, zl80, zn80_, zl288, zn288_, zl300, zn300_, zneg, Nat.reduceEqDiff, Nat.reduceAdd, ↓reduceIte, vv, b0, b2, b3, b4, b5, b6, ht, hx]
          rw [← hpk]
          have fr3 : Fr p46 σ σ2 := Fr.tr fr (Fr.tr (Fr.put (fun i q => by simp [p46] at q)) (Fr.mono fr2 (fun o i q => by simp [p46] at q ⊢; exact q.2)))
          cases hpp : p k
          · simp only [b2i_f, ↓reduceIte]
            refine ih ?_ σ2 fr3 ?_ ?_ ?_ ?_ ?_ ?_
            · rw [hI, ff_no hk' hpp]
            all_goals
              rw [fr2 4 _ (by decide)]
              simp (disch := omega) only [zup_eq, zput_app, zput_twice, upd_same, nI_1, za2, zA2, zm2, za3, zA3, zm3, za4, zA4, zm4, za9, zA9, zm9, za10, zA10, zm10, za18, zA18, zm18, za27, zA27, zm27, za36, zA36, zm36, za48, zA48, zm48, za288, zA288, zm288, zcl, zinT, upd_ne, upd_eq, zlt, znlt, zl2, zn2_, zl3, zn3_, zl5, zn5_, zl9, zn9_, zl10, zn10_, zl16, zn16_, zl20, zn20_, zl40, zn40_, zl60, zn60_, zl76, zn76_, zl80, zn80_, zl288, zn288_, zl300, zn300_, zneg, Nat.reduceEqDiff, Nat.reduceAdd, ↓reduceIte]
              assumption
          · have h10 : ((1 : Int32) = 0) = False := by decide
            simp only [b2i_t, h10, ↓reduceIte]
            rw [hI, ff_yes hk' hpp] at h
            exact h σ2 fr3
      cases hz : zb ms k
      · simp only [↓reduceIte]; exact fin 0 (by rw [hz]; rfl)
      · simp only [↓reduceIte, Bool.true_eq_false]; exact fin 1 (by rw [hz]; rfl)
  · intro hI σ1 fr b0 b2 b3 b4 b5 b6
    refine k_80_74_i23 ?_
    have e3 : σ1 23 3 = nI c.1 := (fr 23 3 (by simp [p46])).trans hc.1
    simp (disch := omega) only [zup_eq, zput_app, zput_twice, upd_same, nI_1, za2, zA2, zm2, za3, zA3, zm3, za4, zA4, zm4, za9, zA9, zm9, za10, zA10, zm10, za18, zA18, zm18, za27, zA27, zm27, za36, zA36, zm36, za48, zA48, zm48, za288, zA288, zm288, zcl, zinT, upd_ne, upd_eq, zlt, znlt, zl2, zn2_, zl3, zn3_, zl5, zn5_, zl9, zn9_, zl10, zn10_, zl16, zn16_, zl20, zn20_, zl40, zn40_, zl60, zn60_, zl76, zn76_, zl80, zn80_, zl288, zn288_, zl300, zn300_, zneg, Nat.reduceEqDiff, Nat.reduceAdd, ↓reduceIte, e3]
    rw [hI, ff_end] at h
    exact h σ1 fr
  · exact Fr.put (fun i q => by simp [p46] at q)
  all_goals simp (disch := omega) only [zup_eq, zput_app, zput_twice, upd_same, nI_1, za2, zA2, zm2, za3, zA3, zm3, za4, zA4, zm4, za9, zA9, zm9, za10, zA10, zm10, za18, zA18, zm18, za27, zA27, zm27, za36, zA36, zm36, za48, zA48, zm48, za288, zA288, zm288, zcl, zinT, upd_ne, upd_eq, zlt, znlt, zl2, zn2_, zl3, zn3_, zl5, zn5_, zl9, zn9_, zl10, zn10_, zl16, zn16_, zl20, zn20_, zl40, zn40_, zl60, zn60_, zl76, zn76_, zl80, zn80_, zl288, zn288_, zl300, zn300_, zneg, Nat.reduceEqDiff, Nat.reduceAdd, ↓reduceIte]
theorem c_catchAll23 {d : Nat} {σ : zS} {t : Nat} {c : MC} {q : Nat → Int32} (hc : CW 23 c σ) (hk : HK (d + 2) c.2.2.2.1 σ) (hv : RVC c.2.2.2.1) (hcm : CM 26 c.1 q σ) (ht : q 46 = nI t) (htb : t < 1073741824) {Q : Int32 → zS → Prop}
    (h : ∀ σ', Fr (pw 23) σ σ' → CM 26 c.1 (rc c q (σ 23 4) (σ 23 5) c.1) σ' → σ' 23 4 = σ 23 4 → σ' 23 5 = σ 23 5 → σ' 23 6 = bs (fun f => cb c (rc c q (σ 23 4) (σ 23 5) f) (σ 23 4) (σ 23 5) f) c.1 → (∀ i, σ' 31 i = σ 31 i) → Q 0 σ') : ZC (d + 4) 79 [.ref 23] σ Q := by
  generalize hys : σ 23 4 = ys at h
  generalize hms : σ 23 5 = ms at h
  have h9 : c.1 ≤ 9 := hc.2.1
  refine k_79_0_i23 ?_
  have loop : ∀ others : Int32, (∀ f, f < c.1 → zb others f = false → sg (nI c.1) c.2.2.1 f &&& ys = 0 ∨ zb (q 45 ||| ys) f = true) → (∀ f, f < c.1 → zb others f = true → zb (q 45 ||| ys) f = false) → ∀ w3 w4, Z (d + 3) 79 Q 30 [.ref 23, .int others, .int (nI 0), w3, w4] [] (zput σ 23 (upd (σ 23) 6 0)) := by
    intro others ho1 ho2 w3 w4
    refine z_for (F := c.1) (P := fun k => ∀ σ1, Fr (pw 23) σ σ1 → CM 26 c.1 (rc c q ys ms k) σ1 → σ1 23 4 = ys → σ1 23 5 = ms → σ1 23 6 = bs (fun f => cb c (rc c q ys ms f) ys ms f) k → (∀ i, σ1 31 i = σ 31 i) → ∀ w3 w4, Z (d + 3) 79 Q 30 [.ref 23, .int others, .int (nI k), w3, w4] [] σ1) (fun k hk' ih => ?_) ?_ _ ?_ ?_ ?_ ?_ ?_ ?_ w3 w4
    · intro σ1 f1 f2 f3 f4 f5 f6 w3 w4
      have hc1 := CW.fr (Or.inr rfl) hc f1
      have hcm1 := f2
      obtain ⟨m1, m2, m3, m4, m5⟩ := f2
      obtain ⟨a1, a2, a3, a4, a5⟩ := m1 k hk'
      have h45 : rc c q ys ms k 45 = q 45 := rc_hi (Or.inr (by omega)) k (by omega)
      have h46 : rc c q ys ms k 46 = nI t := by rw [rc_hi (Or.inr (by omega)) k (by omega)]; exact ht
      have no : cb c (rc c q ys ms k) ys ms k = false → ∀ w3 w4, Z (d + 3) 79 Q 30 [.ref 23, .int others, .int (nI (k + 1)), w3, w4] [] σ1 := by
        intro hcb w3 w4
        refine ih σ1 f1 ?_ f3 f4 ?_ f6 w3 w4
        · unfold rc; rw [hcb]; exact hcm1
        · rw [bs_1, hcb]; exact f5
      refine k_79_30_i23 ?_
      have hsg : sg (nI c.1) (σ1 25) k = sg (nI c.1) c.2.2.1 k := sg_congr (hc1.2.2.1 k hk').2
      simp (disch := omega) only [zup_eq, zput_app, zput_twice, upd_same, nI_1, za2, zA2, zm2, za3, zA3, zm3, za4, zA4, zm4, za9, zA9, zm9, za10, zA10, zm10, za18, zA18, zm18, za27, zA27, zm27, za36, zA36, zm36, za48, zA48, zm48, za288, zA288, zm288, zcl, zinT, upd_ne, upd_eq, zlt, znlt, zl2, zn2_, zl3, zn3_, zl5, zn5_, zl9, zn9_, zl10, zn10_, zl16, zn16_, zl20, zn20_, zl40, zn40_, zl60, zn60_, zl76, zn76_, zl80, zn80_, zl288, zn288_, zl300, zn300_, zneg, Nat.reduceEqDiff, Nat.reduceAdd, ↓reduceIte, hc1.1, s_hasN, b2i_0, f3, c_sight23, hsg, a3]
      cases hz : zb others k
      · simp only [↓reduceIte]
        refine no ?_ _ _
        rcases ho1 k hk' hz with e | e
        · unfold cb; rw [cz_0 h9 e]; simp
        · unfold cb; rw [h45, e]; simp
      · simp only [↓reduceIte, Bool.true_eq_false]
        have hz2 := ho2 k hk' hz
        by_cases hs : sg (nI c.1) c.2.2.1 k &&& ys = 0
        · rw [if_pos hs]
          refine no ?_ _ _
          unfold cb; rw [cz_0 h9 hs]; simp
        · rw [if_neg hs]
          by_cases hd : rc c q ys ms k (18 + k) = -1
          · rw [if_pos hd]
            refine c_causeFor23 hc1 (fun σ' q1 q2 => hk σ' (q1.trans (f1 3 2 (by decide))) (q2.trans (funext fun i => f1 5 i (by simp [pw])))) hv hcm1 f4 hk' h46 htb (fun σ2 fr2 => ?_)
            have hcz : ff (ct c.2.2.2.1 (wd c.2.2.2.2.1 c.2.2.2.2.2 t) (rc c q ys ms k) (sg (nI c.1) c.2.2.1 k &&& ys) ms k) c.1 0 = cz c (rc c q ys ms k) ys ms k := by
              unfold cz; rw [h46, zcl (by omega)]
            rw [hcz]
            have hcb : cb c (rc c q ys ms k) ys ms k = !decide (cz c (rc c q ys ms k) ys ms k = -1) := by
              unfold cb
              rw [h45, hz2, hd]; simp
            have fw2 : Fr (pw 23) σ1 σ2 := Fr.mono fr2 (fun o i q => by simp only [pw, p46, decide_eq_false_iff_not] at q ⊢; omega)
            have hcm2 : CM 26 c.1 (rc c q ys ms k) σ2 := CM.fr hcm1 fr2 (fun o i h1 h2 => by simp [p46]; omega)
            have hc2 := CW.fr (Or.inr rfl) hc1 fw2
            by_cases hq : cz c (rc c q ys ms k) ys ms k = -1
            · rw [if_pos hq]
              have hcbf : cb c (rc c q ys ms k) ys ms k = false := by rw [hcb, hq]; rfl
              refine ih σ2 (Fr.tr f1 fw2) ?_ ?_ ?_ ?_ ?_ _ _
              · unfold rc; rw [hcbf]; exact hcm2
              · exact (fr2 23 4 (by decide)).trans f3
              · exact (fr2 23 5 (by decide)).trans f4
              · rw [bs_1, hcbf]; exact (fr2 23 6 (by decide)).trans f5
              · intro i; exact (fr2 31 i (by simp [p46])).trans (f6 i)
            · rw [if_neg hq]
              have e6 : σ2 26 6 = nI t := by rw [hcm2.2.2.2.2]; exact h46
              rw [e6, (hc2.2.2.1 k hk').1]
              refine c_plan23 hcm2 h9 hk' _ _ (Or.inl rfl) (fun σ3 fr3 c3 => ?_)
              simp (disch := omega) only [zup_eq, zput_app, zput_twice, upd_same, nI_1, za2, zA2, zm2, za3, zA3, zm3, za4, zA4, zm4, za9, zA9, zm9, za10, zA10, zm10, za18, zA18, zm18, za27, zA27, zm27, za36, zA36, zm36, za48, zA48, zm48, za288, zA288, zm288, zcl, zinT, upd_ne, upd_eq, zlt, znlt, zl2, zn2_, zl3, zn3_, zl5, zn5_, zl9, zn9_, zl10, zn10_, zl16, zn16_, zl20, zn20_, zl40, zn40_, zl60, zn60_, zl76, zn76_, zl80, zn80_, zl288, zn288_, zl300, zn300_, zneg, Nat.reduceEqDiff, Nat.reduceAdd, ↓reduceIte, s_bit]
              have hcbt : cb c (rc c q ys ms k) ys ms k = true := by rw [hcb]; simp [hq]
              have fw3 := Fr.pm_pw (W := 23) fr3
              have g6 : σ3 23 6 = bs (fun f => cb c (rc c q ys ms f) ys ms f) k := ((fr3 23 6 (by decide)).trans (fr2 23 6 (by decide))).trans f5
              refine ih _ (Fr.tr f1 (Fr.tr fw2 (Fr.tr fw3 (Fr.put (fun i q => ?_))))) ?_ ?_ ?_ ?_ ?_ _ _
              · have hi : i ≠ 6 := by rintro rfl; simp [pw] at q
                rw [upd_ne hi]
              · refine CM.fr (p := fun o _ => decide (o = 23)) (r := rc c q ys ms (k + 1)) ?_ (Fr.put (fun i q => by simp at q)) (fun o i h1 h2 => by simp; omega)
                conv => arg 3; unfold rc
                rw [hcbt]
                simp only [↓reduceIte]
                rw [ht]
                exact c3
              · simp (disch := omega) only [zup_eq, zput_app, zput_twice, upd_same, nI_1, za2, zA2, zm2, za3, zA3, zm3, za4, zA4, zm4, za9, zA9, zm9, za10, zA10, zm10, za18, zA18, zm18, za27, zA27, zm27, za36, zA36, zm36, za48, zA48, zm48, za288, zA288, zm288, zcl, zinT, upd_ne, upd_eq, zlt, znlt, zl2, zn2_, zl3, zn3_, zl5, zn5_, zl9, zn9_, zl10, zn10_, zl16, zn16_, zl20, zn20_, zl40, zn40_, zl60, zn60_, zl76, zn76_, zl80, zn80_, zl288, zn288_, zl300, zn300_, zneg, Nat.reduceEqDiff, Nat.reduceAdd, ↓reduceIte]; exact ((fr3 23 4 (by decide)).trans (fr2 23 4 (by decide))).trans f3
              · simp (disch := omega) only [zup_eq, zput_app, zput_twice, upd_same, nI_1, za2, zA2, zm2, za3, zA3, zm3, za4, zA4, zm4, za9, zA9, zm9, za10, zA10, zm10, za18, zA18, zm18, za27, zA27, zm27, za36, zA36, zm36, za48, zA48, zm48, za288, zA288, zm288, zcl, zinT, upd_ne, upd_eq, zlt, znlt, zl2, zn2_, zl3, zn3_, zl5, zn5_, zl9, zn9_, zl10, zn10_, zl16, zn16_, zl20, zn20_, zl40, zn40_, zl60, zn60_, zl76, zn76_, zl80, zn80_, zl288, zn288_, zl300, zn300_, zneg, Nat.reduceEqDiff, Nat.reduceAdd, ↓reduceIte]; exact ((fr3 23 5 (by decide)).trans (fr2 23 5 (by decide))).trans f4
              · simp (disch := omega) only [zup_eq, zput_app, zput_twice, upd_same, nI_1, za2, zA2, zm2, za3, zA3, zm3, za4, zA4, zm4, za9, zA9, zm9, za10, zA10, zm10, za18, zA18, zm18, za27, zA27, zm27, za36, zA36, zm36, za48, zA48, zm48, za288, zA288, zm288, zcl, zinT, upd_ne, upd_eq, zlt, znlt, zl2, zn2_, zl3, zn3_, zl5, zn5_, zl9, zn9_, zl10, zn10_, zl16, zn16_, zl20, zn20_, zl40, zn40_, zl60, zn60_, zl76, zn76_, zl80, zn80_, zl288, zn288_, zl300, zn300_, zneg, Nat.reduceEqDiff, Nat.reduceAdd, ↓reduceIte]
                rw [bs_1, hcbt, g6]; rfl
              · intro i
                simp (disch := omega) only [zup_eq, zput_app, zput_twice, upd_same, nI_1, za2, zA2, zm2, za3, zA3, zm3, za4, zA4, zm4, za9, zA9, zm9, za10, zA10, zm10, za18, zA18, zm18, za27, zA27, zm27, za36, zA36, zm36, za48, zA48, zm48, za288, zA288, zm288, zcl, zinT, upd_ne, upd_eq, zlt, znlt, zl2, zn2_, zl3, zn3_, zl5, zn5_, zl9, zn9_, zl10, zn10_, zl16, zn16_, zl20, zn20_, zl40, zn40_, zl60, zn60_, zl76, zn76_, zl80, zn80_, zl288, zn288_, zl300, zn300_, zneg, Nat.reduceEqDiff, Nat.reduceAdd, ↓reduceIte]
                exact ((fr3 31 i (by simp [pm])).trans (fr2 31 i (by simp [p46]))).trans (f6 i)
          · rw [if_neg hd]
            refine no ?_ _ _
            unfold cb; simp [hd]
    · intro σ1 f1 f2 f3 f4 f5 f6 w3 w4
      refine k_79_30_i23 ?_
      have hc1 := CW.fr (Or.inr rfl) hc f1
      simp (disch := omega) only [zup_eq, zput_app, zput_twice, upd_same, nI_1, za2, zA2, zm2, za3, zA3, zm3, za4, zA4, zm4, za9, zA9, zm9, za10, zA10, zm10, za18, zA18, zm18, za27, zA27, zm27, za36, zA36, zm36, za48, zA48, zm48, za288, zA288, zm288, zcl, zinT, upd_ne, upd_eq, zlt, znlt, zl2, zn2_, zl3, zn3_, zl5, zn5_, zl9, zn9_, zl10, zn10_, zl16, zn16_, zl20, zn20_, zl40, zn40_, zl60, zn60_, zl76, zn76_, zl80, zn80_, zl288, zn288_, zl300, zn300_, zneg, Nat.reduceEqDiff, Nat.reduceAdd, ↓reduceIte, hc1.1]
      exact h σ1 f1 f2 f3 f4 f5 f6
    · refine Fr.put (fun i q => ?_)
      have hi : i ≠ 6 := by rintro rfl; simp [pw] at q
      rw [upd_ne hi]
    · exact CM.fr (p := fun o _ => decide (o = 23)) hcm (Fr.put (fun i q => by simp at q)) (fun o i h1 h2 => by simp; omega)
    · simp (disch := omega) only [zup_eq, zput_app, zput_twice, upd_same, nI_1, za2, zA2, zm2, za3, zA3, zm3, za4, zA4, zm4, za9, zA9, zm9, za10, zA10, zm10, za18, zA18, zm18, za27, zA27, zm27, za36, zA36, zm36, za48, zA48, zm48, za288, zA288, zm288, zcl, zinT, upd_ne, upd_eq, zlt, znlt, zl2, zn2_, zl3, zn3_, zl5, zn5_, zl9, zn9_, zl10, zn10_, zl16, zn16_, zl20, zn20_, zl40, zn40_, zl60, zn60_, zl76, zn76_, zl80, zn80_, zl288, zn288_, zl300, zn300_, zneg, Nat.reduceEqDiff, Nat.reduceAdd, ↓reduceIte]; exact hys
    · simp (disch := omega) only [zup_eq, zput_app, zput_twice, upd_same, nI_1, za2, zA2, zm2, za3, zA3, zm3, za4, zA4, zm4, za9, zA9, zm9, za10, zA10, zm10, za18, zA18, zm18, za27, zA27, zm27, za36, zA36, zm36, za48, zA48, zm48, za288, zA288, zm288, zcl, zinT, upd_ne, upd_eq, zlt, znlt, zl2, zn2_, zl3, zn3_, zl5, zn5_, zl9, zn9_, zl10, zn10_, zl16, zn16_, zl20, zn20_, zl40, zn40_, zl60, zn60_, zl76, zn76_, zl80, zn80_, zl288, zn288_, zl300, zn300_, zneg, Nat.reduceEqDiff, Nat.reduceAdd, ↓reduceIte]; exact hms
    · simp (disch := omega) only [zup_eq, zput_app, zput_twice, upd_same, nI_1, za2, zA2, zm2, za3, zA3, zm3, za4, zA4, zm4, za9, zA9, zm9, za10, zA10, zm10, za18, zA18, zm18, za27, zA27, zm27, za36, zA36, zm36, za48, zA48, zm48, za288, zA288, zm288, zcl, zinT, upd_ne, upd_eq, zlt, znlt, zl2, zn2_, zl3, zn3_, zl5, zn5_, zl9, zn9_, zl10, zn10_, zl16, zn16_, zl20, zn20_, zl40, zn40_, zl60, zn60_, zl76, zn76_, zl80, zn80_, zl288, zn288_, zl300, zn300_, zneg, Nat.reduceEqDiff, Nat.reduceAdd, ↓reduceIte]; rfl
    · intro i; simp (disch := omega) only [zup_eq, zput_app, zput_twice, upd_same, nI_1, za2, zA2, zm2, za3, zA3, zm3, za4, zA4, zm4, za9, zA9, zm9, za10, zA10, zm10, za18, zA18, zm18, za27, zA27, zm27, za36, zA36, zm36, za48, zA48, zm48, za288, zA288, zm288, zcl, zinT, upd_ne, upd_eq, zlt, znlt, zl2, zn2_, zl3, zn3_, zl5, zn5_, zl9, zn9_, zl10, zn10_, zl16, zn16_, zl20, zn20_, zl40, zn40_, zl60, zn60_, zl76, zn76_, zl80, zn80_, zl288, zn288_, zl300, zn300_, zneg, Nat.reduceEqDiff, Nat.reduceAdd, ↓reduceIte]
  by_cases hy0 : ys = 0
  · simp (disch := omega) only [zup_eq, zput_app, zput_twice, upd_same, nI_1, za2, zA2, zm2, za3, zA3, zm3, za4, zA4, zm4, za9, zA9, zm9, za10, zA10, zm10, za18, zA18, zm18, za27, zA27, zm27, za36, zA36, zm36, za48, zA48, zm48, za288, zA288, zm288, zcl, zinT, upd_ne, upd_eq, zlt, znlt, zl2, zn2_, zl3, zn3_, zl5, zn5_, zl9, zn9_, zl10, zn10_, zl16, zn16_, zl20, zn20_, zl40, zn40_, zl60, zn60_, zl76, zn76_, zl80, zn80_, zl288, zn288_, zl300, zn300_, zneg, Nat.reduceEqDiff, Nat.reduceAdd, ↓reduceIte, hys, hy0]
    refine loop 0 (fun f hf _ => Or.inl ?_) (fun f hf q => by rw [zb_0] at q; cases q) _ _
    rw [hy0]; exact Int32.and_zero
  · simp (disch := omega) only [zup_eq, zput_app, zput_twice, upd_same, nI_1, za2, zA2, zm2, za3, zA3, zm3, za4, zA4, zm4, za9, zA9, zm9, za10, zA10, zm10, za18, zA18, zm18, za27, zA27, zm27, za36, zA36, zm36, za48, zA48, zm48, za288, zA288, zm288, zcl, zinT, upd_ne, upd_eq, zlt, znlt, zl2, zn2_, zl3, zn3_, zl5, zn5_, zl9, zn9_, zl10, zn10_, zl16, zn16_, zl20, zn20_, zl40, zn40_, zl60, zn60_, zl76, zn76_, zl80, zn80_, zl288, zn288_, zl300, zn300_, zneg, Nat.reduceEqDiff, Nat.reduceAdd, ↓reduceIte, hys, hy0, c_present23, hc.1, hcm.2.2.2.1]
    refine loop _ (fun f hf q' => Or.inr ?_) (fun f hf q' => ?_) _ _
    · rw [zb_and, zb_and, zb_all _ h9 f (by omega), zb_not (by omega), zb_not (by omega)] at q'
      rw [zb_or]
      simp [hf] at q'
      cases h1 : zb (q 45) f <;> simp_all
    · rw [zb_and, zb_and, zb_all _ h9 f (by omega), zb_not (by omega), zb_not (by omega)] at q'
      rw [zb_or]
      simp [hf] at q'
      simp_all
