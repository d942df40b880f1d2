/-! the reference asks the rule -/
def RRef (l : List Int32) (σ : zS) : Prop := (σ 214 20 = 0 ∧ l = [1000, 3, -62]) ∨ (∃ (n : Nat) (C : Nat → Nat), σ 214 20 = nI n ∧ 0 < n ∧ n ≤ 40 ∧ (∀ i, i < n → chR (σ 222 i) (C i)) ∧ (∀ i, n ≤ i → C i = 999) ∧ pE C 4 0 = (true, n, l))
theorem zdec_n (k : Nat) (h : k < 1000) : zdec (nI (k + 1)) = .ref k := by
  unfold zdec
  rw [if_neg (nI_ne0 (by omega) (by omega)), nI_clamp (by omega)]
  rfl
theorem vof_inv {c : Nat} (h : vof c ≠ 99) : c = 116 ∨ c = 121 ∨ c = 107 ∨ c = 110 ∨ c = 119 ∨ c = 109 ∨ c = 105 ∨ c = 106 ∨ c = 120 := by
  unfold vof at h
  repeat' split at h
  all_goals omega
theorem r_here222 {C : Nat → Nat} {n : Nat} {σ : zS} (hn : n ≤ 40) (h13 : σ 214 13 = nI 223) (h14 : σ 214 14 = nI n) (h15 : σ 214 15 = nI 40) (hch : ∀ i, i < n → chR (σ 222 i) (C i)) (hC : ∀ i, n ≤ i → C i = 999) : HR C n σ := by
  intro σ1 hf a ha h16 d Q hq
  have e13 : σ1 214 13 = nI 223 := (hf 214 13 (by decide)).trans h13
  have e14 : σ1 214 14 = nI n := (hf 214 14 (by decide)).trans h14
  have e15 : σ1 214 15 = nI 40 := (hf 214 15 (by decide)).trans h15
  refine k_182_0 ?_
  rw [h16, e14, e15]
  by_cases hL : a < n
  · rw [if_pos (nI_lt hL (by omega)), if_pos (nI_lt (by omega) (by decide)), e13, zdec_n 222 (by decide)]
    refine k_182_26_222 ?_
    rw [h16]
    simp (disch := omega) only [zup_eq, zput_app, zput_twice, upd_same, nI_1, za2, zA2, zm2, za3, zA3, zm3, za4, zA4, zm4, za9, zA9, zm9, za10, zA10, zm10, za18, zA18, zm18, za27, zA27, zm27, za36, zA36, zm36, za48, zA48, zm48, za288, zA288, zm288, zcl, zinT, upd_ne, upd_eq, zlt, znlt, zl2, zn2_, zl3, zn3_, zl5, zn5_, zl9, zn9_, zl10, zn10_, zl16, zn16_, zl20, zn20_, zl40, zn40_, zl60, zn60_, zl76, zn76_, zl80, zn80_, zl288, zn288_, zl300, zn300_, zneg, Nat.reduceEqDiff, Nat.reduceAdd, ↓reduceIte]
    rw [show σ1 222 a = σ 222 a from hf 222 a (by simp [pq])]
    exact hq _ (hch a hL)
  · rw [if_neg (nI_nlt (by omega) (by omega))]
    exact hq _ (Or.inr ⟨hC a (by omega), fun c hc => m1_ne c hc⟩)
theorem rvl_0 (v : Nat → Int32) : rvl [1000, 3, -62] v = decide (3 < v 0) := by
  unfold rvl
  have : ex v [1000, 3, -62] [] = [if 3 < v 0 then 1 else 0] := rfl
  rw [this]
  by_cases h : 3 < v 0
  · rw [if_pos h]; simp [h]
  · rw [if_neg h]; simp [h]
theorem r_val215 {σ : zS} {f o t W : Nat} {n x : Int32} (hf : f < 9) (ho : o < 9) (h21 : σ 214 21 = nI 216) (h22 : σ 214 22 = nI f) (h23 : σ 214 23 = nI o) (h24 : σ 214 24 = n) (h25 : σ 214 25 = x) (h6 : σ 214 6 = nI W) (hW : W ≤ 40) (ht : σ 215 46 = nI t) (htb : t < 1073741824) : RV (vv (σ 215 f) (σ 215 o) (σ 215 (9 + f)) n (wd W (σ 218) t) (nI t) (nI f) (nI o) x) σ := by
  intro σ1 hfr d x1 c hc w3 w4 Q hq
  have eA : ∀ i, σ1 215 i = σ 215 i := fun i => hfr 215 i (by simp [pq])
  have e18 : ∀ i, σ1 218 i = σ 218 i := fun i => hfr 218 i (by simp [pq])
  have e21 : σ1 214 21 = nI 216 := (hfr 214 21 (by decide)).trans h21
  have e22 : σ1 214 22 = nI f := (hfr 214 22 (by decide)).trans h22
  have e23 : σ1 214 23 = nI o := (hfr 214 23 (by decide)).trans h23
  have e24 : σ1 214 24 = n := (hfr 214 24 (by decide)).trans h24
  have e25 : σ1 214 25 = x := (hfr 214 25 (by decide)).trans h25
  have e6 : σ1 214 6 = nI W := (hfr 214 6 (by decide)).trans h6
  rw [e21, zdec_n 215 (by decide)]
  refine k_196_212_215 ?_
  rw [e21, zdec_n 215 (by decide)]
  refine k_196_225_215 ?_
  refine k_197_0_i214_215 ?_
  rcases vof_inv hc with rfl | rfl | rfl | rfl | rfl | rfl | rfl | rfl | rfl
  all_goals
    repeat rw [if_neg (by decide)]
    rw [if_pos (by decide)]
  · simp (disch := omega) only [e22, zup_eq, zput_app, zput_twice, upd_same, nI_1, za2, zA2, zm2, za3, zA3, zm3, za4, zA4, zm4, za9, zA9, zm9, za10, zA10, zm10, za18, zA18, zm18, za27, zA27, zm27, za36, zA36, zm36, za48, zA48, zm48, za288, zA288, zm288, zcl, zinT, upd_ne, upd_eq, zlt, znlt, zl2, zn2_, zl3, zn3_, zl5, zn5_, zl9, zn9_, zl10, zn10_, zl16, zn16_, zl20, zn20_, zl40, zn40_, zl60, zn60_, zl76, zn76_, zl80, zn80_, zl288, zn288_, zl300, zn300_, zneg, Nat.reduceEqDiff, Nat.reduceAdd, ↓reduceIte, eA]; exact hq
  · simp (disch := omega) only [e23, zup_eq, zput_app, zput_twice, upd_same, nI_1, za2, zA2, zm2, za3, zA3, zm3, za4, zA4, zm4, za9, zA9, zm9, za10, zA10, zm10, za18, zA18, zm18, za27, zA27, zm27, za36, zA36, zm36, za48, zA48, zm48, za288, zA288, zm288, zcl, zinT, upd_ne, upd_eq, zlt, znlt, zl2, zn2_, zl3, zn3_, zl5, zn5_, zl9, zn9_, zl10, zn10_, zl16, zn16_, zl20, zn20_, zl40, zn40_, zl60, zn60_, zl76, zn76_, zl80, zn80_, zl288, zn288_, zl300, zn300_, zneg, Nat.reduceEqDiff, Nat.reduceAdd, ↓reduceIte, eA]; exact hq
  · simp (disch := omega) only [e22, zup_eq, zput_app, zput_twice, upd_same, nI_1, za2, zA2, zm2, za3, zA3, zm3, za4, zA4, zm4, za9, zA9, zm9, za10, zA10, zm10, za18, zA18, zm18, za27, zA27, zm27, za36, zA36, zm36, za48, zA48, zm48, za288, zA288, zm288, zcl, zinT, upd_ne, upd_eq, zlt, znlt, zl2, zn2_, zl3, zn3_, zl5, zn5_, zl9, zn9_, zl10, zn10_, zl16, zn16_, zl20, zn20_, zl40, zn40_, zl60, zn60_, zl76, zn76_, zl80, zn80_, zl288, zn288_, zl300, zn300_, zneg, Nat.reduceEqDiff, Nat.reduceAdd, ↓reduceIte, eA]; exact hq
  · rw [e24]; exact hq
  · rw [e6]
    have hq' : Q (wd W (σ 218) t) σ1 := hq
    unfold wd at hq'
    by_cases hz : W = 0
    · rw [if_pos hz] at hq'
      rw [hz, if_pos (by decide)]
      exact hq'
    · rw [if_neg hz] at hq'
      have e3 : ¬ (nI W = 0) := nI_ne0 (by omega) (by omega)
      have e2 : t % W < W := Nat.mod_lt _ (by omega)
      rw [if_neg e3, if_neg e3, eA, ht, zrem_nI (by omega) (by omega) (by omega)]
      simp (disch := omega) only [zup_eq, zput_app, zput_twice, upd_same, nI_1, za2, zA2, zm2, za3, zA3, zm3, za4, zA4, zm4, za9, zA9, zm9, za10, zA10, zm10, za18, zA18, zm18, za27, zA27, zm27, za36, zA36, zm36, za48, zA48, zm48, za288, zA288, zm288, zcl, zinT, upd_ne, upd_eq, zlt, znlt, zl2, zn2_, zl3, zn3_, zl5, zn5_, zl9, zn9_, zl10, zn10_, zl16, zn16_, zl20, zn20_, zl40, zn40_, zl60, zn60_, zl76, zn76_, zl80, zn80_, zl288, zn288_, zl300, zn300_, zneg, Nat.reduceEqDiff, Nat.reduceAdd, ↓reduceIte, e18]
      exact hq'
  · rw [eA, ht]; exact hq
  · rw [e22]; exact hq
  · rw [e23]; exact hq
  · rw [e25]; exact hq
theorem r_catches215 {l : List Int32} {σ : zS} (hl : RRef l σ) {W : Nat} (h6 : σ 214 6 = nI W) (hW : W ≤ 40) (e : Nat) : CK (e + 224) 215 (rvl l) W (σ 218) σ := by
  intro σ' hfr f o hf ho n x t ht htb Q hq
  have g6 : σ' 214 6 = nI W := (hfr 214 6 (by decide)).trans h6
  have g20 : σ' 214 20 = σ 214 20 := hfr 214 20 (by decide)
  have g18 : σ' 218 = σ 218 := funext fun i => hfr 218 i (by simp [pR])
  have g22 : ∀ i, σ' 222 i = σ 222 i := fun i => hfr 222 i (by simp [pR])
  refine k_199_0_i214_215 ?_
  rcases hl with ⟨h20, rfl⟩ | ⟨m, C, h20, hm0, hm, hch, hC, hpE⟩
  · rw [g20, h20, if_pos rfl]
    simp (disch := omega) only [zup_eq, zput_app, zput_twice, upd_same, nI_1, za2, zA2, zm2, za3, zA3, zm3, za4, zA4, zm4, za9, zA9, zm9, za10, zA10, zm10, za18, zA18, zm18, za27, zA27, zm27, za36, zA36, zm36, za48, zA48, zm48, za288, zA288, zm288, zcl, zinT, upd_ne, upd_eq, zlt, znlt, zl2, zn2_, zl3, zn3_, zl5, zn5_, zl9, zn9_, zl10, zn10_, zl16, zn16_, zl20, zn20_, zl40, zn40_, zl60, zn60_, zl76, zn76_, zl80, zn80_, zl288, zn288_, zl300, zn300_, zneg, Nat.reduceEqDiff, Nat.reduceAdd, ↓reduceIte]
    have h := hq σ' Fr.rf
    rw [rvl_0] at h
    have e0 : vv (σ' 215 f) (σ' 215 o) (σ' 215 (9 + f)) n (wd W (σ 218) t) (nI t) (nI f) (nI o) x 0 = σ' 215 f := rfl
    rw [e0] at h
    by_cases h3 : 3 < σ' 215 f
    · rw [if_pos h3]; rw [decide_eq_true h3] at h; exact h
    · rw [if_neg h3]; rw [decide_eq_false h3] at h; exact h
  · rw [g20, h20, if_neg (nI_ne0 hm0 (by omega))]
    refine k_181_0_i214_222 ?_
    generalize hσ1 : zup (zup (zup (zup (zup (zup (zup (zup (zup (zup σ' 214 13 (nI 223)) 214 14 (nI m)) 214 15 40) 214 16 0) 214 17 (-1)) 214 21 (nI 216)) 214 22 (nI f)) 214 23 (nI o)) 214 24 n) 214 25 x = σ1
    have hg : ∀ i, σ1 214 i = if i = 25 then x else if i = 24 then n else if i = 23 then nI o else if i = 22 then nI f else if i = 21 then nI 216 else if i = 17 then -1 else if i = 16 then 0 else if i = 15 then nI 40 else if i = 14 then nI m else if i = 13 then nI 223 else σ' 214 i := by
      intro i; rw [← hσ1]; rfl
    have ho' : ∀ p, p ≠ 214 → σ1 p = σ' p := by
      intro p hp
      rw [← hσ1]
      simp only [zup_eq, zput_app, hp, ↓reduceIte]
    have hfr1 : Fr pG σ' σ1 := by
      intro p i q
      by_cases hp : p = 214
      · subst hp
        rw [hg]
        have q2 : ¬ ((13 ≤ i ∧ i ≤ 17) ∨ (21 ≤ i ∧ i ≤ 25)) := fun h => by
          have : pG 214 i = true := by unfold pG; rcases h with h | h <;> simp [h]
          rw [this] at q; cases q
        rw [if_neg (by omega), if_neg (by omega), if_neg (by omega), if_neg (by omega), if_neg (by omega), if_neg (by omega), if_neg (by omega), if_neg (by omega), if_neg (by omega), if_neg (by omega)]
      · rw [ho' p hp]
    have hR : HR C m σ1 := r_here222 hm (hg 13) (hg 14) (hg 15) (fun i hi => by rw [ho' 222 (by decide), g22]; exact hch i hi) hC
    have hV : RV (vv (σ1 215 f) (σ1 215 o) (σ1 215 (9 + f)) n (wd W (σ1 218) t) (nI t) (nI f) (nI o) x) σ1 := r_val215 hf ho (hg 21) (hg 22) (hg 23) (hg 24) (hg 25) ((hg 6).trans g6) hW (by rw [ho' 215 (by decide)]; exact ht) htb
    rw [ho' 215 (by decide), ho' 218 (by decide), g18] at hV
    have hF : RF 0 σ1 := ⟨hg 16, hg 17⟩
    have hpq : ∀ σ2, Fr pq σ1 σ2 → Fr pG σ' σ2 := fun σ2 h => Fr.tr hfr1 (Fr.mono h (fun p i q => by
      simp only [pG, pq, Bool.and_eq_false_iff, Bool.or_eq_false_iff, decide_eq_false_iff_not] at q ⊢
      omega))
    refine r_pE hR hC hm hV 4 (by decide) e 0 σ1 Fr.rf hF (by omega) _ (fun hr w σ2 hw f2 F2 => ?_) (fun hr w σ2 f2 B2 => ?_)
    · rw [hpE] at hw
      have h := hq σ2 (hpq σ2 f2)
      have hv : rvl l (vv (σ' 215 f) (σ' 215 o) (σ' 215 (9 + f)) n (wd W (σ 218) t) (nI t) (nI f) (nI o) x) = !decide (w = 0) := by
        unfold rvl
        have hw' := hw []
        have : ex (vv (σ' 215 f) (σ' 215 o) (σ' 215 (9 + f)) n (wd W (σ 218) t) (nI t) (nI f) (nI o) x) l [] = [w] := hw'
        rw [this]; rfl
      rw [hv] at h
      by_cases hz : w = 0
      · rw [if_pos hz]; rw [hz] at h; exact h
      · rw [if_neg hz]
        have : (!decide (w = 0)) = true := by simp [hz]
        rw [this] at h
        exact h
    · rw [hpE] at hr; cases hr
theorem r_val226 {σ : zS} {f o t W : Nat} {n x : Int32} (hf : f < 9) (ho : o < 9) (h21 : σ 214 21 = nI 227) (h22 : σ 214 22 = nI f) (h23 : σ 214 23 = nI o) (h24 : σ 214 24 = n) (h25 : σ 214 25 = x) (h6 : σ 214 6 = nI W) (hW : W ≤ 40) (ht : σ 226 46 = nI t) (htb : t < 1073741824) : RV (vv (σ 226 f) (σ 226 o) (σ 226 (9 + f)) n (wd W (σ 218) t) (nI t) (nI f) (nI o) x) σ := by
  intro σ1 hfr d x1 c hc w3 w4 Q hq
  have eA : ∀ i, σ1 226 i = σ 226 i := fun i => hfr 226 i (by simp [pq])
  have e18 : ∀ i, σ1 218 i = σ 218 i := fun i => hfr 218 i (by simp [pq])
  have e21 : σ1 214 21 = nI 227 := (hfr 214 21 (by decide)).trans h21
  have e22 : σ1 214 22 = nI f := (hfr 214 22 (by decide)).trans h22
  have e23 : σ1 214 23 = nI o := (hfr 214 23 (by decide)).trans h23
  have e24 : σ1 214 24 = n := (hfr 214 24 (by decide)).trans h24
  have e25 : σ1 214 25 = x := (hfr 214 25 (by decide)).trans h25
  have e6 : σ1 214 6 = nI W := (hfr 214 6 (by decide)).trans h6
  rw [e21, zdec_n 226 (by decide)]
  refine k_196_212_226 ?_
  rw [e21, zdec_n 226 (by decide)]
  refine k_196_225_226 ?_
  refine k_197_0_i214_226 ?_
  rcases vof_inv hc with rfl | rfl | rfl | rfl | rfl | rfl | rfl | rfl | rfl
  all_goals
    repeat rw [if_neg (by decide)]
    rw [if_pos (by decide)]
  · simp (disch := omega) only [e22, zup_eq, zput_app, zput_twice, upd_same, nI_1, za2, zA2, zm2, za3, zA3, zm3, za4, zA4, zm4, za9, zA9, zm9, za10, zA10, zm10, za18, zA18, zm18, za27, zA27, zm27, za36, zA36, zm36, za48, zA48, zm48, za288, zA288, zm288, zcl, zinT, upd_ne, upd_eq, zlt, znlt, zl2, zn2_, zl3, zn3_, zl5, zn5_, zl9, zn9_, zl10, zn10_, zl16, zn16_, zl20, zn20_, zl40, zn40_, zl60, zn60_, zl76, zn76_, zl80, zn80_, zl288, zn288_, zl300, zn300_, zneg, Nat.reduceEqDiff, Nat.reduceAdd, ↓reduceIte, eA]; exact hq
  · simp (disch := omega) only [e23, zup_eq, zput_app, zput_twice, upd_same, nI_1, za2, zA2, zm2, za3, zA3, zm3, za4, zA4, zm4, za9, zA9, zm9, za10, zA10, zm10, za18, zA18, zm18, za27, zA27, zm27, za36, zA36, zm36, za48, zA48, zm48, za288, zA288, zm288, zcl, zinT, upd_ne, upd_eq, zlt, znlt, zl2, zn2_, zl3, zn3_, zl5, zn5_, zl9, zn9_, zl10, zn10_, zl16, zn16_, zl20, zn20_, zl40, zn40_, zl60, zn60_, zl76, zn76_, zl80, zn80_, zl288, zn288_, zl300, zn300_, zneg, Nat.reduceEqDiff, Nat.reduceAdd, ↓reduceIte, eA]; exact hq
  · simp (disch := omega) only [e22, zup_eq, zput_app, zput_twice, upd_same, nI_1, za2, zA2, zm2, za3, zA3, zm3, za4, zA4, zm4, za9, zA9, zm9, za10, zA10, zm10, za18, zA18, zm18, za27, zA27, zm27, za36, zA36, zm36, za48, zA48, zm48, za288, zA288, zm288, zcl, zinT, upd_ne, upd_eq, zlt, znlt, zl2, zn2_, zl3, zn3_, zl5, zn5_, zl9, zn9_, zl10, zn10_, zl16, zn16_, zl20, zn20_, zl40, zn40_, zl60, zn60_, zl76, zn76_, zl80, zn80_, zl288, zn288_, zl300, zn300_, zneg, Nat.reduceEqDiff, Nat.reduceAdd, ↓reduceIte, eA]; exact hq
  · rw [e24]; exact hq
  · rw [e6]
    have hq' : Q (wd W (σ 218) t) σ1 := hq
    unfold wd at hq'
    by_cases hz : W = 0
    · rw [if_pos hz] at hq'
      rw [hz, if_pos (by decide)]
      exact hq'
    · rw [if_neg hz] at hq'
      have e3 : ¬ (nI W = 0) := nI_ne0 (by omega) (by omega)
      have e2 : t % W < W := Nat.mod_lt _ (by omega)
      rw [if_neg e3, if_neg e3, eA, ht, zrem_nI (by omega) (by omega) (by omega)]
      simp (disch := omega) only [zup_eq, zput_app, zput_twice, upd_same, nI_1, za2, zA2, zm2, za3, zA3, zm3, za4, zA4, zm4, za9, zA9, zm9, za10, zA10, zm10, za18, zA18, zm18, za27, zA27, zm27, za36, zA36, zm36, za48, zA48, zm48, za288, zA288, zm288, zcl, zinT, upd_ne, upd_eq, zlt, znlt, zl2, zn2_, zl3, zn3_, zl5, zn5_, zl9, zn9_, zl10, zn10_, zl16, zn16_, zl20, zn20_, zl40, zn40_, zl60, zn60_, zl76, zn76_, zl80, zn80_, zl288, zn288_, zl300, zn300_, zneg, Nat.reduceEqDiff, Nat.reduceAdd, ↓reduceIte, e18]
      exact hq'
  · rw [eA, ht]; exact hq
  · rw [e22]; exact hq
  · rw [e23]; exact hq
  · rw [e25]; exact hq
theorem r_catches226 {l : List Int32} {σ : zS} (hl : RRef l σ) {W : Nat} (h6 : σ 214 6 = nI W) (hW : W ≤ 40) (e : Nat) : CK (e + 224) 226 (rvl l) W (σ 218) σ := by
  intro σ' hfr f o hf ho n x t ht htb Q hq
  have g6 : σ' 214 6 = nI W := (hfr 214 6 (by decide)).trans h6
  have g20 : σ' 214 20 = σ 214 20 := hfr 214 20 (by decide)
  have g18 : σ' 218 = σ 218 := funext fun i => hfr 218 i (by simp [pR])
  have g22 : ∀ i, σ' 222 i = σ 222 i := fun i => hfr 222 i (by simp [pR])
  refine k_199_0_i214_226 ?_
  rcases hl with ⟨h20, rfl⟩ | ⟨m, C, h20, hm0, hm, hch, hC, hpE⟩
  · rw [g20, h20, if_pos rfl]
    simp (disch := omega) only [zup_eq, zput_app, zput_twice, upd_same, nI_1, za2, zA2, zm2, za3, zA3, zm3, za4, zA4, zm4, za9, zA9, zm9, za10, zA10, zm10, za18, zA18, zm18, za27, zA27, zm27, za36, zA36, zm36, za48, zA48, zm48, za288, zA288, zm288, zcl, zinT, upd_ne, upd_eq, zlt, znlt, zl2, zn2_, zl3, zn3_, zl5, zn5_, zl9, zn9_, zl10, zn10_, zl16, zn16_, zl20, zn20_, zl40, zn40_, zl60, zn60_, zl76, zn76_, zl80, zn80_, zl288, zn288_, zl300, zn300_, zneg, Nat.reduceEqDiff, Nat.reduceAdd, ↓reduceIte]
    have h := hq σ' Fr.rf
    rw [rvl_0] at h
    have e0 : vv (σ' 226 f) (σ' 226 o) (σ' 226 (9 + f)) n (wd W (σ 218) t) (nI t) (nI f) (nI o) x 0 = σ' 226 f := rfl
    rw [e0] at h
    by_cases h3 : 3 < σ' 226 f
    · rw [if_pos h3]; rw [decide_eq_true h3] at h; exact h
    · rw [if_neg h3]; rw [decide_eq_false h3] at h; exact h
  · rw [g20, h20, if_neg (nI_ne0 hm0 (by omega))]
    refine k_181_0_i214_222 ?_
    generalize hσ1 : zup (zup (zup (zup (zup (zup (zup (zup (zup (zup σ' 214 13 (nI 223)) 214 14 (nI m)) 214 15 40) 214 16 0) 214 17 (-1)) 214 21 (nI 227)) 214 22 (nI f)) 214 23 (nI o)) 214 24 n) 214 25 x = σ1
    have hg : ∀ i, σ1 214 i = if i = 25 then x else if i = 24 then n else if i = 23 then nI o else if i = 22 then nI f else if i = 21 then nI 227 else if i = 17 then -1 else if i = 16 then 0 else if i = 15 then nI 40 else if i = 14 then nI m else if i = 13 then nI 223 else σ' 214 i := by
      intro i; rw [← hσ1]; rfl
    have ho' : ∀ p, p ≠ 214 → σ1 p = σ' p := by
      intro p hp
      rw [← hσ1]
      simp only [zup_eq, zput_app, hp, ↓reduceIte]
    have hfr1 : Fr pG σ' σ1 := by
      intro p i q
      by_cases hp : p = 214
      · subst hp
        rw [hg]
        have q2 : ¬ ((13 ≤ i ∧ i ≤ 17) ∨ (21 ≤ i ∧ i ≤ 25)) := fun h => by
          have : pG 214 i = true := by unfold pG; rcases h with h | h <;> simp [h]
          rw [this] at q; cases q
        rw [if_neg (by omega), if_neg (by omega), if_neg (by omega), if_neg (by omega), if_neg (by omega), if_neg (by omega), if_neg (by omega), if_neg (by omega), if_neg (by omega), if_neg (by omega)]
      · rw [ho' p hp]
    have hR : HR C m σ1 := r_here222 hm (hg 13) (hg 14) (hg 15) (fun i hi => by rw [ho' 222 (by decide), g22]; exact hch i hi) hC
    have hV : RV (vv (σ1 226 f) (σ1 226 o) (σ1 226 (9 + f)) n (wd W (σ1 218) t) (nI t) (nI f) (nI o) x) σ1 := r_val226 hf ho (hg 21) (hg 22) (hg 23) (hg 24) (hg 25) ((hg 6).trans g6) hW (by rw [ho' 226 (by decide)]; exact ht) htb
    rw [ho' 226 (by decide), ho' 218 (by decide), g18] at hV
    have hF : RF 0 σ1 := ⟨hg 16, hg 17⟩
    have hpq : ∀ σ2, Fr pq σ1 σ2 → Fr pG σ' σ2 := fun σ2 h => Fr.tr hfr1 (Fr.mono h (fun p i q => by
      simp only [pG, pq, Bool.and_eq_false_iff, Bool.or_eq_false_iff, decide_eq_false_iff_not] at q ⊢
      omega))
    refine r_pE hR hC hm hV 4 (by decide) e 0 σ1 Fr.rf hF (by omega) _ (fun hr w σ2 hw f2 F2 => ?_) (fun hr w σ2 f2 B2 => ?_)
    · rw [hpE] at hw
      have h := hq σ2 (hpq σ2 f2)
      have hv : rvl l (vv (σ' 226 f) (σ' 226 o) (σ' 226 (9 + f)) n (wd W (σ 218) t) (nI t) (nI f) (nI o) x) = !decide (w = 0) := by
        unfold rvl
        have hw' := hw []
        have : ex (vv (σ' 226 f) (σ' 226 o) (σ' 226 (9 + f)) n (wd W (σ 218) t) (nI t) (nI f) (nI o) x) l [] = [w] := hw'
        rw [this]; rfl
      rw [hv] at h
      by_cases hz : w = 0
      · rw [if_pos hz]; rw [hz] at h; exact h
      · rw [if_neg hz]
        have : (!decide (w = 0)) = true := by simp [hz]
        rw [this] at h
        exact h
    · rw [hpE] at hr; cases hr
