/-! crews and sightings come and go -/
def dCs (o i : Nat) : Bool := scr o i || dCrew o i
def dSs (o i : Nat) : Bool := scr o i || dSeen o i
theorem Inv.crewed {b : Nat} {σ σ' : zS} (h : Inv b σ) (hf : Fr dCs σ σ') (hc : pCrew σ') : Inv b σ' := by
  obtain ⟨F, l, W, h1, h2, h3, h4, h5, h6, h7, h8, h9, h10, h11, h12⟩ := h
  have fin : ∀ dep : Nat → Nat → Bool, (∀ o i, dep o i = true → dCs o i = false) → AG dep σ σ' := fun dep q => AG.of hf q
  refine ⟨F, l, W, pWall.ag (fin dWall ?_) h1, pRow.ag (fin dRow ?_) h2, pRule.ag (fin dRule ?_) h3, pWind.ag (fin dWind ?_) h4, pText.ag (fin dText ?_) h5, pJd.ag (fin dJd ?_) h6, pTold.ag (fin dTold ?_) h7, hc, pSeen.ag (fin dSeen ?_) h9, pPast.ag (fin dPast ?_) h10, pKept.ag (fin dKept ?_) h11, (hf 214 7 (by decide)).trans h12⟩
  all_goals
    intro o i q
    simp only [dWall, dRow, dRule, dWind, dText, dJd, dCrew, dSeen, dPast, dKept, dCs, scr, dTold, decide_eq_true_eq, decide_eq_false_iff_not, Bool.or_eq_false_iff] at q ⊢
    omega
theorem Inv.seened {b : Nat} {σ σ' : zS} (h : Inv b σ) (hf : Fr dSs σ σ') (hc : pSeen σ') : Inv b σ' := by
  obtain ⟨F, l, W, h1, h2, h3, h4, h5, h6, h7, h8, h9, h10, h11, h12⟩ := h
  have fin : ∀ dep : Nat → Nat → Bool, (∀ o i, dep o i = true → dSs o i = false) → AG dep σ σ' := fun dep q => AG.of hf q
  refine ⟨F, l, W, pWall.ag (fin dWall ?_) h1, pRow.ag (fin dRow ?_) h2, pRule.ag (fin dRule ?_) h3, pWind.ag (fin dWind ?_) h4, pText.ag (fin dText ?_) h5, pJd.ag (fin dJd ?_) h6, pTold.ag (fin dTold ?_) h7, pCrew.ag (fin dCrew ?_) h8, hc, pPast.ag (fin dPast ?_) h10, pKept.ag (fin dKept ?_) h11, (hf 214 7 (by decide)).trans h12⟩
  all_goals
    intro o i q
    simp only [dWall, dRow, dRule, dWind, dText, dJd, dCrew, dSeen, dPast, dKept, dSs, scr, dTold, decide_eq_true_eq, decide_eq_false_iff_not, Bool.or_eq_false_iff] at q ⊢
    omega
theorem Inv.hseen {b : Nat} {σ : zS} (h : Inv b σ) : pSeen σ := by
  obtain ⟨F, l, W, -, -, -, -, -, -, -, -, h9, -⟩ := h
  exact h9
theorem dCs_1 (i : Nat) : dCs 184 i = true := rfl
theorem dCs_2 (i : Nat) : dCs 185 i = true := rfl
theorem dCs_3 (i : Nat) : dCs 186 i = true := rfl
theorem dCs_4 (i : Nat) : dCs 231 i = true := rfl
theorem dSs_1 (i : Nat) : dSs 188 i = true := rfl
theorem dSs_2 (i : Nat) : dSs 189 i = true := rfl
theorem dSs_3 (i : Nat) : dSs 233 i = true := rfl
theorem call_home {d e b : Nat} {σ : zS} (h : Inv b σ) : Both (d + 1) 118 [.ref 0] (e + 1) 258 [.ref 214] b σ := by
  obtain ⟨k, hk, k1, k2, k3⟩ := h.hcrew
  refine k_118_0 ?_
  refine k_258_0 ?_
  refine ⟨?_, Inv.crewed h (Fr.tr (Fr.up (by decide)) (Fr.tr (Fr.up (by decide)) (Fr.up (by decide)))) ⟨0, by decide, ?_, ?_, fun i hi => absurd hi (Nat.not_lt_zero i)⟩⟩
  · simp (disch := omega) only [zup_eq, zput_app, zput_twice, upd_same, nI_1, za2, zA2, zm2, za3, zA3, zm3, za4, zA4, zm4, za9, zA9, zm9, za10, zA10, zm10, za18, zA18, zm18, za27, zA27, zm27, za36, zA36, zm36, za48, zA48, zm48, za288, zA288, zm288, zcl, zinT, upd_ne, upd_eq, zlt, znlt, zl2, zn2_, zl3, zn3_, zl5, zn5_, zl9, zn9_, zl10, zn10_, zl16, zn16_, zl20, zn20_, zl40, zn40_, zl60, zn60_, zl76, zn76_, zl80, zn80_, zl288, zn288_, zl300, zn300_, zneg, Nat.reduceEqDiff, Nat.reduceAdd, ↓reduceIte]
    rw [k1, k2]
  · simp (disch := omega) only [zup_eq, zput_app, zput_twice, upd_same, nI_1, za2, zA2, zm2, za3, zA3, zm3, za4, zA4, zm4, za9, zA9, zm9, za10, zA10, zm10, za18, zA18, zm18, za27, zA27, zm27, za36, zA36, zm36, za48, zA48, zm48, za288, zA288, zm288, zcl, zinT, upd_ne, upd_eq, zlt, znlt, zl2, zn2_, zl3, zn3_, zl5, zn5_, zl9, zn9_, zl10, zn10_, zl16, zn16_, zl20, zn20_, zl40, zn40_, zl60, zn60_, zl76, zn76_, zl80, zn80_, zl288, zn288_, zl300, zn300_, zneg, Nat.reduceEqDiff, Nat.reduceAdd, ↓reduceIte]; rfl
  · simp (disch := omega) only [zup_eq, zput_app, zput_twice, upd_same, nI_1, za2, zA2, zm2, za3, zA3, zm3, za4, zA4, zm4, za9, zA9, zm9, za10, zA10, zm10, za18, zA18, zm18, za27, zA27, zm27, za36, zA36, zm36, za48, zA48, zm48, za288, zA288, zm288, zcl, zinT, upd_ne, upd_eq, zlt, znlt, zl2, zn2_, zl3, zn3_, zl5, zn5_, zl9, zn9_, zl10, zn10_, zl16, zn16_, zl20, zn20_, zl40, zn40_, zl60, zn60_, zl76, zn76_, zl80, zn80_, zl288, zn288_, zl300, zn300_, zneg, Nat.reduceEqDiff, Nat.reduceAdd, ↓reduceIte]; rfl
theorem call_forget {d e b : Nat} {σ : zS} (h : Inv b σ) : Both (d + 1) 122 [.ref 0] (e + 1) 263 [.ref 214] b σ := by
  obtain ⟨k, hk, k1, k2, k3⟩ := h.hseen
  refine k_122_0 ?_
  refine k_263_0 ?_
  refine ⟨?_, Inv.seened h (Fr.tr (Fr.up (by decide)) (Fr.tr (Fr.up (by decide)) (Fr.up (by decide)))) ⟨0, by decide, ?_, ?_, fun i hi => absurd hi (Nat.not_lt_zero i)⟩⟩
  · simp (disch := omega) only [zup_eq, zput_app, zput_twice, upd_same, nI_1, za2, zA2, zm2, za3, zA3, zm3, za4, zA4, zm4, za9, zA9, zm9, za10, zA10, zm10, za18, zA18, zm18, za27, zA27, zm27, za36, zA36, zm36, za48, zA48, zm48, za288, zA288, zm288, zcl, zinT, upd_ne, upd_eq, zlt, znlt, zl2, zn2_, zl3, zn3_, zl5, zn5_, zl9, zn9_, zl10, zn10_, zl16, zn16_, zl20, zn20_, zl40, zn40_, zl60, zn60_, zl76, zn76_, zl80, zn80_, zl288, zn288_, zl300, zn300_, zneg, Nat.reduceEqDiff, Nat.reduceAdd, ↓reduceIte]
    rw [k1, k2]
  · simp (disch := omega) only [zup_eq, zput_app, zput_twice, upd_same, nI_1, za2, zA2, zm2, za3, zA3, zm3, za4, zA4, zm4, za9, zA9, zm9, za10, zA10, zm10, za18, zA18, zm18, za27, zA27, zm27, za36, zA36, zm36, za48, zA48, zm48, za288, zA288, zm288, zcl, zinT, upd_ne, upd_eq, zlt, znlt, zl2, zn2_, zl3, zn3_, zl5, zn5_, zl9, zn9_, zl10, zn10_, zl16, zn16_, zl20, zn20_, zl40, zn40_, zl60, zn60_, zl76, zn76_, zl80, zn80_, zl288, zn288_, zl300, zn300_, zneg, Nat.reduceEqDiff, Nat.reduceAdd, ↓reduceIte]; rfl
  · simp (disch := omega) only [zup_eq, zput_app, zput_twice, upd_same, nI_1, za2, zA2, zm2, za3, zA3, zm3, za4, zA4, zm4, za9, zA9, zm9, za10, zA10, zm10, za18, zA18, zm18, za27, zA27, zm27, za36, zA36, zm36, za48, zA48, zm48, za288, zA288, zm288, zcl, zinT, upd_ne, upd_eq, zlt, znlt, zl2, zn2_, zl3, zn3_, zl5, zn5_, zl9, zn9_, zl10, zn10_, zl16, zn16_, zl20, zn20_, zl40, zn40_, zl60, zn60_, zl76, zn76_, zl80, zn80_, zl288, zn288_, zl300, zn300_, zneg, Nat.reduceEqDiff, Nat.reduceAdd, ↓reduceIte]; rfl
theorem rng0 (x hi : Int32) {n : Nat} (hn : n < 1000000000) (he : hi = nI n) : (x < 0 ∨ hi < x) ∨ ∃ k, k ≤ n ∧ x = nI k ∧ ¬ x < 0 ∧ ¬ hi < x := by
  subst he
  rcases rngC x 0 n (by decide) hn with h | ⟨k, -, h1, rfl⟩
  · exact Or.inl h
  · exact Or.inr ⟨k, h1, rfl, nI_pos (by omega), fun q => absurd ((nI_ltI (by omega) (by omega)).mp q) (by omega)⟩
theorem call_crew {d e b : Nat} {σ : zS} (x y z : Int32) (h : Inv b σ) : Both (d + 2) 117 [.ref 0, .int x, .int y, .int z] (e + 2) 257 [.ref 214, .int x, .int y, .int z] b σ := by
  obtain ⟨k, hk, k1, k2, k3⟩ := h.hcrew
  rcases rng0 x 600 (n := 600) (by decide) rfl with hx | ⟨u, hu, eu, u1, u2⟩
  · refine both_q h (-1) none (fun Q hq => ?_) (fun σ3 f3 Q hq => ?_)
    · refine k_117_0 ?_
      rw [s_isIn0 hx, if_pos rfl]
      exact hq σ Fr.rf
    · refine k_257_0 ?_
      rw [s_in0 hx, if_pos rfl]
      exact hq _ fr12
  rcases rng0 y 9 (n := 9) (by decide) rfl with hy | ⟨v, hv, ev, v1, v2⟩
  · refine both_q h (-1) none (fun Q hq => ?_) (fun σ3 f3 Q hq => ?_)
    · refine k_117_0 ?_
      rw [s_isIn, if_neg u1, if_neg u2, if_neg (by decide), s_isIn0 hy, if_pos rfl]
      exact hq σ Fr.rf
    · refine k_257_0 ?_
      rw [s_in, if_neg u1, if_neg u2, if_neg (by decide), s_in0 hy, if_pos rfl]
      exact hq _ fr12
  rcases rng0 z 99 (n := 99) (by decide) rfl with hz | ⟨w, hw, ew, w1, w2⟩
  · refine both_q h (-1) none (fun Q hq => ?_) (fun σ3 f3 Q hq => ?_)
    · refine k_117_0 ?_
      rw [s_isIn, if_neg u1, if_neg u2, if_neg (by decide), s_isIn, if_neg v1, if_neg v2, if_neg (by decide), s_isIn0 hz, if_pos rfl]
      exact hq σ Fr.rf
    · refine k_257_0 ?_
      rw [s_in, if_neg u1, if_neg u2, if_neg (by decide), s_in, if_neg v1, if_neg v2, if_neg (by decide), s_in0 hz, if_pos rfl]
      exact hq _ fr12
  refine k_117_0 ?_
  rw [s_isIn, if_neg u1, if_neg u2, if_neg (by decide), s_isIn, if_neg v1, if_neg v2, if_neg (by decide), s_isIn, if_neg w1, if_neg w2, if_neg (by decide)]
  refine k_20_0 ?_
  subst eu ev ew
  by_cases h5 : k = 5
  · subst h5
    rw [k1, if_neg (by decide), if_neg (by decide), if_pos rfl]
    refine k_257_0 ?_
    rw [s_in, if_neg u1, if_neg u2, if_neg (by decide), s_in, if_neg v1, if_neg v2, if_neg (by decide), s_in, if_neg w1, if_neg w2, if_neg (by decide)]
    rw [show (zup σ 214 12 0) 214 43 = nI 5 from k2, if_pos (show nI 5 = (5 : Int32) from rfl)]
    exact ⟨rfl, Inv.crewed h (Fr.up (by decide)) ⟨5, hk, k1, k2, k3⟩⟩
  · rw [k1, if_neg (nI_pos (by omega)), if_pos (show nI k < (5 : Int32) from nI_lt (b := 5) (by omega) (by decide)), if_pos (zin_nI (by omega) (by decide)), if_pos (zin_nI (by omega) (by decide)), if_pos (zin_nI (by omega) (by decide)), if_neg (by decide), zcl (by omega), show nI k + (1 : Int32) = nI (k + 1) from nI_add k 1]
    refine k_257_0 ?_
    rw [s_in, if_neg u1, if_neg u2, if_neg (by decide), s_in, if_neg v1, if_neg v2, if_neg (by decide), s_in, if_neg w1, if_neg w2, if_neg (by decide)]
    have e43 : ∀ σ' : zS, σ' = (zup (zup (zup (zup σ 184 k (nI u)) 185 k (nI v)) 186 k (nI w)) 183 3 (nI (k + 1))) → (zup σ' 214 12 0) 214 43 = nI k := by
      rintro σ' rfl
      simp (disch := omega) only [zup_eq, zput_app, zput_twice, upd_same, nI_1, za2, zA2, zm2, za3, zA3, zm3, za4, zA4, zm4, za9, zA9, zm9, za10, zA10, zm10, za18, zA18, zm18, za27, zA27, zm27, za36, zA36, zm36, za48, zA48, zm48, za288, zA288, zm288, zcl, zinT, upd_ne, upd_eq, zlt, znlt, zl2, zn2_, zl3, zn3_, zl5, zn5_, zl9, zn9_, zl10, zn10_, zl16, zn16_, zl20, zn20_, zl40, zn40_, zl60, zn60_, zl76, zn76_, zl80, zn80_, zl288, zn288_, zl300, zn300_, zneg, Nat.reduceEqDiff, Nat.reduceAdd, ↓reduceIte]
      exact k2
    rw [e43 _ rfl, if_neg (fun q => h5 (by have := (nI_ltI (a := k) (b := 5) (by omega) (by decide)).mpr (by omega); rw [q] at this; exact absurd this (by decide)))]
    rw [zm3, show nI (3 * k) + (1 : Int32) = nI (3 * k + 1) from nI_add _ 1, zA2, if_pos (zin_nI (by omega) (by decide)), if_pos (zin_nI (by omega) (by decide)), if_pos (zin_nI (by omega) (by decide)), zcl (by omega), zcl (by omega), zcl (by omega), show nI k + (1 : Int32) = nI (k + 1) from nI_add k 1]
    refine ⟨?_, Inv.crewed h (Fr.tr (Fr.up (dCs_1 _)) (Fr.tr (Fr.up (dCs_2 _)) (Fr.tr (Fr.up (dCs_3 _)) (Fr.tr (Fr.up (by decide)) (Fr.tr (Fr.up (by decide)) (Fr.tr (Fr.up (dCs_4 _)) (Fr.tr (Fr.up (dCs_4 _)) (Fr.tr (Fr.up (dCs_4 _)) (Fr.up (by decide)))))))))) ⟨k + 1, by omega, ?_, ?_, fun i hi => ?_⟩⟩
    · rw [← nI_add]; exact (Int32.add_sub_cancel (nI k) 1).symm
    · simp (disch := omega) only [zup_eq, zput_app, zput_twice, upd_same, nI_1, za2, zA2, zm2, za3, zA3, zm3, za4, zA4, zm4, za9, zA9, zm9, za10, zA10, zm10, za18, zA18, zm18, za27, zA27, zm27, za36, zA36, zm36, za48, zA48, zm48, za288, zA288, zm288, zcl, zinT, upd_ne, upd_eq, zlt, znlt, zl2, zn2_, zl3, zn3_, zl5, zn5_, zl9, zn9_, zl10, zn10_, zl16, zn16_, zl20, zn20_, zl40, zn40_, zl60, zn60_, zl76, zn76_, zl80, zn80_, zl288, zn288_, zl300, zn300_, zneg, Nat.reduceEqDiff, Nat.reduceAdd, ↓reduceIte]
    · simp (disch := omega) only [zup_eq, zput_app, zput_twice, upd_same, nI_1, za2, zA2, zm2, za3, zA3, zm3, za4, zA4, zm4, za9, zA9, zm9, za10, zA10, zm10, za18, zA18, zm18, za27, zA27, zm27, za36, zA36, zm36, za48, zA48, zm48, za288, zA288, zm288, zcl, zinT, upd_ne, upd_eq, zlt, znlt, zl2, zn2_, zl3, zn3_, zl5, zn5_, zl9, zn9_, zl10, zn10_, zl16, zn16_, zl20, zn20_, zl40, zn40_, zl60, zn60_, zl76, zn76_, zl80, zn80_, zl288, zn288_, zl300, zn300_, zneg, Nat.reduceEqDiff, Nat.reduceAdd, ↓reduceIte]
    · by_cases hik : i = k
      · subst hik
        refine ⟨u, v, w, hu, hv, hw, ?_⟩
        simp (disch := omega) only [zup_eq, zput_app, zput_twice, upd_same, nI_1, za2, zA2, zm2, za3, zA3, zm3, za4, zA4, zm4, za9, zA9, zm9, za10, zA10, zm10, za18, zA18, zm18, za27, zA27, zm27, za36, zA36, zm36, za48, zA48, zm48, za288, zA288, zm288, zcl, zinT, upd_ne, upd_eq, zlt, znlt, zl2, zn2_, zl3, zn3_, zl5, zn5_, zl9, zn9_, zl10, zn10_, zl16, zn16_, zl20, zn20_, zl40, zn40_, zl60, zn60_, zl76, zn76_, zl80, zn80_, zl288, zn288_, zl300, zn300_, zneg, Nat.reduceEqDiff, Nat.reduceAdd, ↓reduceIte]
        trivial
      · obtain ⟨u', v', w', g⟩ := k3 i (by omega)
        refine ⟨u', v', w', ?_⟩
        simp (disch := omega) only [zup_eq, zput_app, zput_twice, upd_same, nI_1, za2, zA2, zm2, za3, zA3, zm3, za4, zA4, zm4, za9, zA9, zm9, za10, zA10, zm10, za18, zA18, zm18, za27, zA27, zm27, za36, zA36, zm36, za48, zA48, zm48, za288, zA288, zm288, zcl, zinT, upd_ne, upd_eq, zlt, znlt, zl2, zn2_, zl3, zn3_, zl5, zn5_, zl9, zn9_, zl10, zn10_, zl16, zn16_, zl20, zn20_, zl40, zn40_, zl60, zn60_, zl76, zn76_, zl80, zn80_, zl288, zn288_, zl300, zn300_, zneg, Nat.reduceEqDiff, Nat.reduceAdd, ↓reduceIte]
        exact g
theorem call_seen {d e b : Nat} {σ : zS} (x y : Int32) (h : Inv b σ) : Both (d + 2) 121 [.ref 0, .int x, .int y] (e + 3) 262 [.ref 214, .int x, .int y] b σ := by
  obtain ⟨c, l, t, ht, hc⟩ := h.ctx
  obtain ⟨k, hk, k1, k2, k3⟩ := h.hseen
  rcases faceC x hc.h9 with hx | ⟨f, hf, rfl⟩
  · refine both_q h (-1) none (fun Q hq => ?_) (fun σ3 f3 Q hq => ?_)
    · refine k_121_0 ?_
      rw [c_isFace0 hc.h14 hx, if_pos rfl]
      exact hq σ Fr.rf
    · refine k_262_0 ?_
      rw [r_isFace0 ((fr12 (σ := σ3) 214 1 (by decide)).trans ((f3 214 1 (by decide)).trans hc.hR)) hc.h9 hx, if_pos rfl]
      exact hq _ fr12
  rcases rng0 y 60 (n := 60) (by decide) rfl with hy | ⟨v, hv, ev, v1, v2⟩
  · refine both_q h (-1) none (fun Q hq => ?_) (fun σ3 f3 Q hq => ?_)
    · refine k_121_0 ?_
      rw [c_isFace1 hc.h14 hc.h9 hf, if_neg (by decide), s_isIn0 hy, if_pos rfl]
      exact hq σ Fr.rf
    · refine k_262_0 ?_
      rw [r_isFace1 ((fr12 (σ := σ3) 214 1 (by decide)).trans ((f3 214 1 (by decide)).trans hc.hR)) hc.h9 hf, if_neg (by decide), s_in0 hy, if_pos rfl]
      exact hq _ fr12
  refine k_121_0 ?_
  rw [c_isFace1 hc.h14 hc.h9 hf, if_neg (by decide), s_isIn, if_neg v1, if_neg v2, if_neg (by decide)]
  have h9 := hc.h9
  refine k_56_0 ?_
  subst ev
  by_cases h5 : k = 10
  · subst h5
    rw [k1, if_neg (by decide), if_neg (by decide), if_pos rfl]
    refine k_262_0 ?_
    rw [r_isFace1 ((fr12 (σ := σ) 214 1 (by decide)).trans hc.hR) hc.h9 hf, if_neg (by decide), s_in, if_neg v1, if_neg v2, if_neg (by decide)]
    rw [show (zup σ 214 12 0) 214 46 = nI 10 from k2, if_pos (show nI 10 = (10 : Int32) from rfl)]
    exact ⟨rfl, Inv.seened h (Fr.up (by decide)) ⟨10, hk, k1, k2, k3⟩⟩
  · rw [k1, if_neg (nI_pos (by omega)), if_pos (show nI k < (10 : Int32) from nI_lt (b := 10) (by omega) (by decide)), if_pos (zin_nI (by omega) (by decide)), if_pos (zin_nI (by omega) (by decide)), if_neg (by decide), zcl (by omega), show nI k + (1 : Int32) = nI (k + 1) from nI_add k 1]
    refine k_262_0 ?_
    rw [r_isFace1 (show (zup (zup (zup (zup σ 188 k (nI f)) 189 k (nI v)) 187 0 (nI (k + 1))) 214 12 0) 214 1 = nI c.1 from hc.hR) hc.h9 hf, if_neg (by decide), s_in, if_neg v1, if_neg v2, if_neg (by decide)]
    have e43 : ∀ σ' : zS, σ' = (zup (zup (zup σ 188 k (nI f)) 189 k (nI v)) 187 0 (nI (k + 1))) → (zup σ' 214 12 0) 214 46 = nI k := by
      rintro σ' rfl
      simp (disch := omega) only [zup_eq, zput_app, zput_twice, upd_same, nI_1, za2, zA2, zm2, za3, zA3, zm3, za4, zA4, zm4, za9, zA9, zm9, za10, zA10, zm10, za18, zA18, zm18, za27, zA27, zm27, za36, zA36, zm36, za48, zA48, zm48, za288, zA288, zm288, zcl, zinT, upd_ne, upd_eq, zlt, znlt, zl2, zn2_, zl3, zn3_, zl5, zn5_, zl9, zn9_, zl10, zn10_, zl16, zn16_, zl20, zn20_, zl40, zn40_, zl60, zn60_, zl76, zn76_, zl80, zn80_, zl288, zn288_, zl300, zn300_, zneg, Nat.reduceEqDiff, Nat.reduceAdd, ↓reduceIte]
      exact k2
    rw [e43 _ rfl, if_neg (fun q => h5 (by have := (nI_ltI (a := k) (b := 10) (by omega) (by decide)).mpr (by omega); rw [q] at this; exact absurd this (by decide)))]
    rw [zm2, show nI (2 * k) + (1 : Int32) = nI (2 * k + 1) from nI_add _ 1, if_pos (zin_nI (by omega) (by decide)), if_pos (zin_nI (by omega) (by decide)), zcl (by omega), zcl (by omega), show nI k + (1 : Int32) = nI (k + 1) from nI_add k 1]
    refine ⟨?_, Inv.seened h (Fr.tr (Fr.up (dSs_1 _)) (Fr.tr (Fr.up (dSs_2 _)) (Fr.tr (Fr.up (by decide)) (Fr.tr (Fr.up (by decide)) (Fr.tr (Fr.up (dSs_3 _)) (Fr.tr (Fr.up (dSs_3 _)) (Fr.up (by decide)))))))) ⟨k + 1, by omega, ?_, ?_, fun i hi => ?_⟩⟩
    · simp (disch := omega) only [zup_eq, zput_app, zput_twice, upd_same, nI_1, za2, zA2, zm2, za3, zA3, zm3, za4, zA4, zm4, za9, zA9, zm9, za10, zA10, zm10, za18, zA18, zm18, za27, zA27, zm27, za36, zA36, zm36, za48, zA48, zm48, za288, zA288, zm288, zcl, zinT, upd_ne, upd_eq, zlt, znlt, zl2, zn2_, zl3, zn3_, zl5, zn5_, zl9, zn9_, zl10, zn10_, zl16, zn16_, zl20, zn20_, zl40, zn40_, zl60, zn60_, zl76, zn76_, zl80, zn80_, zl288, zn288_, zl300, zn300_, zneg, Nat.reduceEqDiff, Nat.reduceAdd, ↓reduceIte]
    · simp (disch := omega) only [zup_eq, zput_app, zput_twice, upd_same, nI_1, za2, zA2, zm2, za3, zA3, zm3, za4, zA4, zm4, za9, zA9, zm9, za10, zA10, zm10, za18, zA18, zm18, za27, zA27, zm27, za36, zA36, zm36, za48, zA48, zm48, za288, zA288, zm288, zcl, zinT, upd_ne, upd_eq, zlt, znlt, zl2, zn2_, zl3, zn3_, zl5, zn5_, zl9, zn9_, zl10, zn10_, zl16, zn16_, zl20, zn20_, zl40, zn40_, zl60, zn60_, zl76, zn76_, zl80, zn80_, zl288, zn288_, zl300, zn300_, zneg, Nat.reduceEqDiff, Nat.reduceAdd, ↓reduceIte]
    · simp (disch := omega) only [zup_eq, zput_app, zput_twice, upd_same, nI_1, za2, zA2, zm2, za3, zA3, zm3, za4, zA4, zm4, za9, zA9, zm9, za10, zA10, zm10, za18, zA18, zm18, za27, zA27, zm27, za36, zA36, zm36, za48, zA48, zm48, za288, zA288, zm288, zcl, zinT, upd_ne, upd_eq, zlt, znlt, zl2, zn2_, zl3, zn3_, zl5, zn5_, zl9, zn9_, zl10, zn10_, zl16, zn16_, zl20, zn20_, zl40, zn40_, zl60, zn60_, zl76, zn76_, zl80, zn80_, zl288, zn288_, zl300, zn300_, zneg, Nat.reduceEqDiff, Nat.reduceAdd, ↓reduceIte]
    · by_cases hik : i = k
      · subst hik
        refine ⟨f, v, by omega, hv, ?_⟩
        simp (disch := omega) only [zup_eq, zput_app, zput_twice, upd_same, nI_1, za2, zA2, zm2, za3, zA3, zm3, za4, zA4, zm4, za9, zA9, zm9, za10, zA10, zm10, za18, zA18, zm18, za27, zA27, zm27, za36, zA36, zm36, za48, zA48, zm48, za288, zA288, zm288, zcl, zinT, upd_ne, upd_eq, zlt, znlt, zl2, zn2_, zl3, zn3_, zl5, zn5_, zl9, zn9_, zl10, zn10_, zl16, zn16_, zl20, zn20_, zl40, zn40_, zl60, zn60_, zl76, zn76_, zl80, zn80_, zl288, zn288_, zl300, zn300_, zneg, Nat.reduceEqDiff, Nat.reduceAdd, ↓reduceIte]
        trivial
      · obtain ⟨u', v', g⟩ := k3 i (by omega)
        refine ⟨u', v', ?_⟩
        simp (disch := omega) only [zup_eq, zput_app, zput_twice, upd_same, nI_1, za2, zA2, zm2, za3, zA3, zm3, za4, zA4, zm4, za9, zA9, zm9, za10, zA10, zm10, za18, zA18, zm18, za27, zA27, zm27, za36, zA36, zm36, za48, zA48, zm48, za288, zA288, zm288, zcl, zinT, upd_ne, upd_eq, zlt, znlt, zl2, zn2_, zl3, zn3_, zl5, zn5_, zl9, zn9_, zl10, zn10_, zl16, zn16_, zl20, zn20_, zl40, zn40_, zl60, zn60_, zl76, zn76_, zl80, zn80_, zl288, zn288_, zl300, zn300_, zneg, Nat.reduceEqDiff, Nat.reduceAdd, ↓reduceIte]
        exact g
