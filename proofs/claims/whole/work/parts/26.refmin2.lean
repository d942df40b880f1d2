/-! the reference's minute: catching, and the whole -/
theorem pG_pR {A o i : Nat} (h : pR A o i = false) : pG o i = false := by
  unfold pR at h
  unfold pG
  simp only [Bool.or_eq_false_iff, Bool.and_eq_false_iff, decide_eq_false_iff_not] at h ⊢
  omega
def CKs (A : Nat) (c : MC) (σ : zS) : Prop := σ 214 1 = nI c.1 ∧ σ 216 = c.2.1 ∧ σ 217 = c.2.2.1 ∧ c.1 ≤ 9
theorem CKs.fr {A : Nat} (hA : A = 215 ∨ A = 226) {c : MC} {σ σ' : zS} (h : CKs A c σ) (hf : Fr (pR A) σ σ') : CKs A c σ' := by
  obtain ⟨h1, h2, h3, h4⟩ := h
  refine ⟨?_, ?_, ?_, h4⟩
  · rw [← h1]; exact hf 214 1 (by rcases hA with rfl | rfl <;> decide)
  · rw [← h2]; funext i; exact hf 216 i (by rcases hA with rfl | rfl <;> simp [pR])
  · rw [← h3]; funext i; exact hf 217 i (by rcases hA with rfl | rfl <;> simp [pR])
theorem r_goCatch215 {d : Nat} {σ : zS} {f t : Nat} {c : MC} (hc : CKs 215 c σ) (hck : CK (d + 4) 215 c.2.2.2.1 c.2.2.2.2.1 c.2.2.2.2.2 σ) (hf : f < 9) (ht : σ 215 46 = nI t) (htb : t < 1073741824) {Q : Int32 → zS → Prop}
    (h : ∀ σ', Fr (pR 215) σ σ' → σ' 215 = (if cz c (σ 215) (σ 214 26) (σ 214 28) f = -1 then σ 215 else upd (upd (upd (σ 215) (18 + f) (nI t + c.2.1 f)) (27 + f) (cz c (σ 215) (σ 214 26) (σ 214 28) f)) (36 + f) 0) → σ' 214 26 = σ 214 26 → σ' 214 28 = σ 214 28 → σ' 214 27 = (if cz c (σ 215) (σ 214 26) (σ 214 28) f = -1 then σ 214 27 else σ 214 27 ||| zshl 1 (nI f)) → Q 0 σ') :
    ZC (d + 5) 207 [.ref 214, .ref 215, .int (nI f), .int (nI t)] σ Q := by
  obtain ⟨hF, hD, hS, h9⟩ := hc
  refine k_207_0_i214_215 ?_
  rw [r_sight hf, hF, hS]
  have hz : cz c (σ 215) (σ 214 26) (σ 214 28) f = ff (ct c.2.2.2.1 (wd c.2.2.2.2.1 c.2.2.2.2.2 t) (σ 215) (sg (nI c.1) c.2.2.1 f &&& σ 214 26) (σ 214 28) f) c.1 0 := by
    unfold cz
    rw [ht, zcl (by omega)]
  rw [hz] at h
  generalize hse : sg (nI c.1) c.2.2.1 f &&& σ 214 26 = seen at h ⊢
  generalize hp : ct c.2.2.2.1 (wd c.2.2.2.2.1 c.2.2.2.2.2 t) (σ 215) seen (σ 214 28) f = p at h ⊢
  refine z_forI (F := c.1) (I := fun k => ff p c.1 0 = ff p (c.1 - k) k) (P := fun k => ∀ σ1, Fr pG σ σ1 → Z (d + 4) 207 Q 15 [.ref 214, .ref 215, .int (nI f), .int (nI t), .int seen, .int (nI k)] [] σ1) (fun k hk hI ih => ?_) ?_ rfl σ Fr.rf
  · intro σ1 hfr
    have hA : σ1 215 = σ 215 := funext fun i => hfr 215 i (by simp [pG])
    have h1 : σ1 214 1 = nI c.1 := by rw [← hF]; exact hfr 214 1 (by decide)
    have h28 : σ1 214 28 = σ 214 28 := hfr 214 28 (by decide)
    refine k_207_15_i214_215 ?_
    simp (disch := omega) only [h1, zlt, s_hasR, b2i_0, nI_1, ↓reduceIte]
    cases hb : zb seen k
    · simp only [↓reduceIte]
      refine ih ?_ σ1 hfr
      rw [hI, ff_no hk]
      rw [← hp]; simp [ct, hb]
    · simp only [Bool.true_eq_false, ↓reduceIte, s_bitCount, h28]
      rw [zb_sh _ (by omega)]
      refine hck σ1 (Fr.mono hfr (fun o i q => pG_pR q)) f k hf (by omega) _ _ t (by rw [hA]; exact ht) htb _ (fun σ2 hfr2 => ?_)
      have hpk : p k = c.2.2.2.1 (vv (σ1 215 f) (σ1 215 k) (σ1 215 (9 + f)) (bc seen) (wd c.2.2.2.2.1 c.2.2.2.2.2 t) (nI t) (nI f) (nI k) (b2i (zb (σ 214 28) k))) := by
        rw [← hp, hA]; simp [ct, hb, ht]
      rw [← hpk]
      cases hpp : p k
      · simp only [b2i_f, ↓reduceIte]
        refine ih ?_ σ2 (Fr.tr hfr hfr2)
        rw [hI, ff_no hk hpp]
      · have hA2 : σ2 215 = σ 215 := (funext fun i => hfr2 215 i (by simp [pG])).trans hA
        have hD2 : σ2 216 = c.2.1 := by rw [← hD]; exact funext fun i => (hfr2 216 i (by simp [pG])).trans (hfr 216 i (by simp [pG]))
        have h26 : σ2 214 26 = σ 214 26 := (hfr2 214 26 (by decide)).trans (hfr 214 26 (by decide))
        have h27 : σ2 214 27 = σ 214 27 := (hfr2 214 27 (by decide)).trans (hfr 214 27 (by decide))
        have h282 : σ2 214 28 = σ 214 28 := (hfr2 214 28 (by decide)).trans h28
        have hv : ff p c.1 0 = nI k := by rw [hI, ff_yes hk hpp]
        have hvn : ¬ nI k = -1 := by
          have : ∀ k, k < 9 → ¬ nI k = -1 := by decide
          exact this k (by omega)
        rw [hv, if_neg hvn, if_neg hvn] at h
        have h10 : ((1 : Int32) = 0) = False := by decide
        simp (disch := omega) only [b2i_t, h10, zup_eq, zput_app, zput_twice, zput_comm, upd_same, nI_1, za2, zA2, zm2, za3, zA3, zm3, za4, zA4, zm4, za9, zA9, zm9, za10, zA10, zm10, za18, zA18, zm18, za27, zA27, zm27, za36, zA36, zm36, za48, zA48, zm48, za288, zA288, zm288, zcl, zinT, upd_ne, upd_eq, zlt, znlt, zl2, zn2_, zl3, zn3_, zl5, zn5_, zl9, zn9_, zl10, zn10_, zl16, zn16_, zl20, zn20_, zl40, zn40_, zl60, zn60_, zl76, zn76_, zl80, zn80_, zl288, zn288_, zl300, zn300_, zneg, Nat.reduceEqDiff, Nat.reduceAdd, ↓reduceIte]
        refine h _ ?_ ?_ ?_ ?_ ?_
        · intro o i q
          simp only [zput_app]
          by_cases ho : o = 215
          · subst ho; simp [pR] at q
          · by_cases ho2 : o = 214
            · subst ho2
              simp only [Nat.reduceEqDiff, ↓reduceIte]
              have hi : i ≠ 27 := by rintro rfl; simp [pR] at q
              rw [upd_ne hi]
              exact (hfr2 214 i (pG_pR q)).trans (hfr 214 i (pG_pR q))
            · simp only [ho, ho2, ↓reduceIte]
              exact (hfr2 o i (pG_pR q)).trans (hfr o i (pG_pR q))
        · simp (disch := omega) only [zup_eq, zput_app, zput_twice, zput_comm, upd_same, nI_1, za2, zA2, zm2, za3, zA3, zm3, za4, zA4, zm4, za9, zA9, zm9, za10, zA10, zm10, za18, zA18, zm18, za27, zA27, zm27, za36, zA36, zm36, za48, zA48, zm48, za288, zA288, zm288, zcl, zinT, upd_ne, upd_eq, zlt, znlt, zl2, zn2_, zl3, zn3_, zl5, zn5_, zl9, zn9_, zl10, zn10_, zl16, zn16_, zl20, zn20_, zl40, zn40_, zl60, zn60_, zl76, zn76_, zl80, zn80_, zl288, zn288_, zl300, zn300_, zneg, Nat.reduceEqDiff, Nat.reduceAdd, ↓reduceIte, hA2, hD2]
        · simp (disch := omega) only [zup_eq, zput_app, zput_twice, zput_comm, upd_same, nI_1, za2, zA2, zm2, za3, zA3, zm3, za4, zA4, zm4, za9, zA9, zm9, za10, zA10, zm10, za18, zA18, zm18, za27, zA27, zm27, za36, zA36, zm36, za48, zA48, zm48, za288, zA288, zm288, zcl, zinT, upd_ne, upd_eq, zlt, znlt, zl2, zn2_, zl3, zn3_, zl5, zn5_, zl9, zn9_, zl10, zn10_, zl16, zn16_, zl20, zn20_, zl40, zn40_, zl60, zn60_, zl76, zn76_, zl80, zn80_, zl288, zn288_, zl300, zn300_, zneg, Nat.reduceEqDiff, Nat.reduceAdd, ↓reduceIte]; exact h26
        · simp (disch := omega) only [zup_eq, zput_app, zput_twice, zput_comm, upd_same, nI_1, za2, zA2, zm2, za3, zA3, zm3, za4, zA4, zm4, za9, zA9, zm9, za10, zA10, zm10, za18, zA18, zm18, za27, zA27, zm27, za36, zA36, zm36, za48, zA48, zm48, za288, zA288, zm288, zcl, zinT, upd_ne, upd_eq, zlt, znlt, zl2, zn2_, zl3, zn3_, zl5, zn5_, zl9, zn9_, zl10, zn10_, zl16, zn16_, zl20, zn20_, zl40, zn40_, zl60, zn60_, zl76, zn76_, zl80, zn80_, zl288, zn288_, zl300, zn300_, zneg, Nat.reduceEqDiff, Nat.reduceAdd, ↓reduceIte]; exact h282
        · simp (disch := omega) only [zup_eq, zput_app, zput_twice, zput_comm, upd_same, nI_1, za2, zA2, zm2, za3, zA3, zm3, za4, zA4, zm4, za9, zA9, zm9, za10, zA10, zm10, za18, zA18, zm18, za27, zA27, zm27, za36, zA36, zm36, za48, zA48, zm48, za288, zA288, zm288, zcl, zinT, upd_ne, upd_eq, zlt, znlt, zl2, zn2_, zl3, zn3_, zl5, zn5_, zl9, zn9_, zl10, zn10_, zl16, zn16_, zl20, zn20_, zl40, zn40_, zl60, zn60_, zl76, zn76_, zl80, zn80_, zl288, zn288_, zl300, zn300_, zneg, Nat.reduceEqDiff, Nat.reduceAdd, ↓reduceIte, h27]
  · intro hI σ1 hfr
    have h1 : σ1 214 1 = nI c.1 := by rw [← hF]; exact hfr 214 1 (by decide)
    refine k_207_15_i214_215 ?_
    simp (disch := omega) only [h1, znlt, ↓reduceIte]
    rw [hI, ff_end, if_pos rfl, if_pos rfl] at h
    exact h σ1 (Fr.mono hfr (fun o i q => pG_pR q)) (funext fun i => hfr 215 i (by simp [pG])) (hfr 214 26 (by decide)) (hfr 214 28 (by decide)) (hfr 214 27 (by decide))
theorem r_goCatch226 {d : Nat} {σ : zS} {f t : Nat} {c : MC} (hc : CKs 226 c σ) (hck : CK (d + 4) 226 c.2.2.2.1 c.2.2.2.2.1 c.2.2.2.2.2 σ) (hf : f < 9) (ht : σ 226 46 = nI t) (htb : t < 1073741824) {Q : Int32 → zS → Prop}
    (h : ∀ σ', Fr (pR 226) σ σ' → σ' 226 = (if cz c (σ 226) (σ 214 26) (σ 214 28) f = -1 then σ 226 else upd (upd (upd (σ 226) (18 + f) (nI t + c.2.1 f)) (27 + f) (cz c (σ 226) (σ 214 26) (σ 214 28) f)) (36 + f) 0) → σ' 214 26 = σ 214 26 → σ' 214 28 = σ 214 28 → σ' 214 27 = (if cz c (σ 226) (σ 214 26) (σ 214 28) f = -1 then σ 214 27 else σ 214 27 ||| zshl 1 (nI f)) → Q 0 σ') :
    ZC (d + 5) 207 [.ref 214, .ref 226, .int (nI f), .int (nI t)] σ Q := by
  obtain ⟨hF, hD, hS, h9⟩ := hc
  refine k_207_0_i214_226 ?_
  rw [r_sight hf, hF, hS]
  have hz : cz c (σ 226) (σ 214 26) (σ 214 28) f = ff (ct c.2.2.2.1 (wd c.2.2.2.2.1 c.2.2.2.2.2 t) (σ 226) (sg (nI c.1) c.2.2.1 f &&& σ 214 26) (σ 214 28) f) c.1 0 := by
    unfold cz
    rw [ht, zcl (by omega)]
  rw [hz] at h
  generalize hse : sg (nI c.1) c.2.2.1 f &&& σ 214 26 = seen at h ⊢
  generalize hp : ct c.2.2.2.1 (wd c.2.2.2.2.1 c.2.2.2.2.2 t) (σ 226) seen (σ 214 28) f = p at h ⊢
  refine z_forI (F := c.1) (I := fun k => ff p c.1 0 = ff p (c.1 - k) k) (P := fun k => ∀ σ1, Fr pG σ σ1 → Z (d + 4) 207 Q 15 [.ref 214, .ref 226, .int (nI f), .int (nI t), .int seen, .int (nI k)] [] σ1) (fun k hk hI ih => ?_) ?_ rfl σ Fr.rf
  · intro σ1 hfr
    have hA : σ1 226 = σ 226 := funext fun i => hfr 226 i (by simp [pG])
    have h1 : σ1 214 1 = nI c.1 := by rw [← hF]; exact hfr 214 1 (by decide)
    have h28 : σ1 214 28 = σ 214 28 := hfr 214 28 (by decide)
    refine k_207_15_i214_226 ?_
    simp (disch := omega) only [h1, zlt, s_hasR, b2i_0, nI_1, ↓reduceIte]
    cases hb : zb seen k
    · simp only [↓reduceIte]
      refine ih ?_ σ1 hfr
      rw [hI, ff_no hk]
      rw [← hp]; simp [ct, hb]
    · simp only [Bool.true_eq_false, ↓reduceIte, s_bitCount, h28]
      rw [zb_sh _ (by omega)]
      refine hck σ1 (Fr.mono hfr (fun o i q => pG_pR q)) f k hf (by omega) _ _ t (by rw [hA]; exact ht) htb _ (fun σ2 hfr2 => ?_)
      have hpk : p k = c.2.2.2.1 (vv (σ1 226 f) (σ1 226 k) (σ1 226 (9 + f)) (bc seen) (wd c.2.2.2.2.1 c.2.2.2.2.2 t) (nI t) (nI f) (nI k) (b2i (zb (σ 214 28) k))) := by
        rw [← hp, hA]; simp [ct, hb, ht]
      rw [← hpk]
      cases hpp : p k
      · simp only [b2i_f, ↓reduceIte]
        refine ih ?_ σ2 (Fr.tr hfr hfr2)
        rw [hI, ff_no hk hpp]
      · have hA2 : σ2 226 = σ 226 := (funext fun i => hfr2 226 i (by simp [pG])).trans hA
        have hD2 : σ2 216 = c.2.1 := by rw [← hD]; exact funext fun i => (hfr2 216 i (by simp [pG])).trans (hfr 216 i (by simp [pG]))
        have h26 : σ2 214 26 = σ 214 26 := (hfr2 214 26 (by decide)).trans (hfr 214 26 (by decide))
        have h27 : σ2 214 27 = σ 214 27 := (hfr2 214 27 (by decide)).trans (hfr 214 27 (by decide))
        have h282 : σ2 214 28 = σ 214 28 := (hfr2 214 28 (by decide)).trans h28
        have hv : ff p c.1 0 = nI k := by rw [hI, ff_yes hk hpp]
        have hvn : ¬ nI k = -1 := by
          have : ∀ k, k < 9 → ¬ nI k = -1 := by decide
          exact this k (by omega)
        rw [hv, if_neg hvn, if_neg hvn] at h
        have h10 : ((1 : Int32) = 0) = False := by decide
        simp (disch := omega) only [b2i_t, h10, zup_eq, zput_app, zput_twice, zput_comm, upd_same, nI_1, za2, zA2, zm2, za3, zA3, zm3, za4, zA4, zm4, za9, zA9, zm9, za10, zA10, zm10, za18, zA18, zm18, za27, zA27, zm27, za36, zA36, zm36, za48, zA48, zm48, za288, zA288, zm288, zcl, zinT, upd_ne, upd_eq, zlt, znlt, zl2, zn2_, zl3, zn3_, zl5, zn5_, zl9, zn9_, zl10, zn10_, zl16, zn16_, zl20, zn20_, zl40, zn40_, zl60, zn60_, zl76, zn76_, zl80, zn80_, zl288, zn288_, zl300, zn300_, zneg, Nat.reduceEqDiff, Nat.reduceAdd, ↓reduceIte]
        refine h _ ?_ ?_ ?_ ?_ ?_
        · intro o i q
          simp only [zput_app]
          by_cases ho : o = 226
          · subst ho; simp [pR] at q
          · by_cases ho2 : o = 214
            · subst ho2
              simp only [Nat.reduceEqDiff, ↓reduceIte]
              have hi : i ≠ 27 := by rintro rfl; simp [pR] at q
              rw [upd_ne hi]
              exact (hfr2 214 i (pG_pR q)).trans (hfr 214 i (pG_pR q))
            · simp only [ho, ho2, ↓reduceIte]
              exact (hfr2 o i (pG_pR q)).trans (hfr o i (pG_pR q))
        · simp (disch := omega) only [zup_eq, zput_app, zput_twice, zput_comm, upd_same, nI_1, za2, zA2, zm2, za3, zA3, zm3, za4, zA4, zm4, za9, zA9, zm9, za10, zA10, zm10, za18, zA18, zm18, za27, zA27, zm27, za36, zA36, zm36, za48, zA48, zm48, za288, zA288, zm288, zcl, zinT, upd_ne, upd_eq, zlt, znlt, zl2, zn2_, zl3, zn3_, zl5, zn5_, zl9, zn9_, zl10, zn10_, zl16, zn16_, zl20, zn20_, zl40, zn40_, zl60, zn60_, zl76, zn76_, zl80, zn80_, zl288, zn288_, zl300, zn300_, zneg, Nat.reduceEqDiff, Nat.reduceAdd, ↓reduceIte, hA2, hD2]
        · simp (disch := omega) only [zup_eq, zput_app, zput_twice, zput_comm, upd_same, nI_1, za2, zA2, zm2, za3, zA3, zm3, za4, zA4, zm4, za9, zA9, zm9, za10, zA10, zm10, za18, zA18, zm18, za27, zA27, zm27, za36, zA36, zm36, za48, zA48, zm48, za288, zA288, zm288, zcl, zinT, upd_ne, upd_eq, zlt, znlt, zl2, zn2_, zl3, zn3_, zl5, zn5_, zl9, zn9_, zl10, zn10_, zl16, zn16_, zl20, zn20_, zl40, zn40_, zl60, zn60_, zl76, zn76_, zl80, zn80_, zl288, zn288_, zl300, zn300_, zneg, Nat.reduceEqDiff, Nat.reduceAdd, ↓reduceIte]; exact h26
        · simp (disch := omega) only [zup_eq, zput_app, zput_twice, zput_comm, upd_same, nI_1, za2, zA2, zm2, za3, zA3, zm3, za4, zA4, zm4, za9, zA9, zm9, za10, zA10, zm10, za18, zA18, zm18, za27, zA27, zm27, za36, zA36, zm36, za48, zA48, zm48, za288, zA288, zm288, zcl, zinT, upd_ne, upd_eq, zlt, znlt, zl2, zn2_, zl3, zn3_, zl5, zn5_, zl9, zn9_, zl10, zn10_, zl16, zn16_, zl20, zn20_, zl40, zn40_, zl60, zn60_, zl76, zn76_, zl80, zn80_, zl288, zn288_, zl300, zn300_, zneg, Nat.reduceEqDiff, Nat.reduceAdd, ↓reduceIte]; exact h282
        · simp (disch := omega) only [zup_eq, zput_app, zput_twice, zput_comm, upd_same, nI_1, za2, zA2, zm2, za3, zA3, zm3, za4, zA4, zm4, za9, zA9, zm9, za10, zA10, zm10, za18, zA18, zm18, za27, zA27, zm27, za36, zA36, zm36, za48, zA48, zm48, za288, zA288, zm288, zcl, zinT, upd_ne, upd_eq, zlt, znlt, zl2, zn2_, zl3, zn3_, zl5, zn5_, zl9, zn9_, zl10, zn10_, zl16, zn16_, zl20, zn20_, zl40, zn40_, zl60, zn60_, zl76, zn76_, zl80, zn80_, zl288, zn288_, zl300, zn300_, zneg, Nat.reduceEqDiff, Nat.reduceAdd, ↓reduceIte, h27]
  · intro hI σ1 hfr
    have h1 : σ1 214 1 = nI c.1 := by rw [← hF]; exact hfr 214 1 (by decide)
    refine k_207_15_i214_226 ?_
    simp (disch := omega) only [h1, znlt, ↓reduceIte]
    rw [hI, ff_end, if_pos rfl, if_pos rfl] at h
    exact h σ1 (Fr.mono hfr (fun o i q => pG_pR q)) (funext fun i => hfr 226 i (by simp [pG])) (hfr 214 26 (by decide)) (hfr 214 28 (by decide)) (hfr 214 27 (by decide))
