theorem call_face {d e b f k : Nat} {σ : zS} (h : Inv b σ) {c : MC} {l : List Int32} {t : Nat} (hc : Ctx c l t σ) (hf : f < c.1) (hk : k ≤ 7) : Ans (d + 4) 87 [.ref 0, .int (nI f), .int (nI k)] (e + 3) 200 [.ref 214, .int (nI f), .int (nI k)] b σ := by
  have h9 := hc.h9
  have hR : (zup σ 214 12 0) 214 1 = nI c.1 := hc.hR
  have e215 : (zup σ 214 12 0) 215 = σ 215 := rfl
  have e216 : (zup σ 214 12 0) 216 = σ 216 := rfl
  have e217 : (zup σ 214 12 0) 217 = σ 217 := rfl
  obtain ⟨a1, a2, a3, a4, a5⟩ := hc.hcm.1 f hf
  obtain ⟨w1, w2⟩ := hc.hF15 hf
  have b5 : σ 17 5 = σ 215 45 := hc.h45
  have b6 : σ 17 6 = σ 215 46 := hc.hcm.2.2.2.2
  have h36 := hc.hWR.2.2.1 f hf
  have z1 : zin (nI f) 9 = true := zin_nI (by omega) (by decide)
  have z2 : zin (nI f) 288 = true := zin_nI (by omega) (by decide)
  have c1 : (nI f).toNatClampNeg = f := zcl (by omega)
  have x9 : (9 : Int32) + nI f = nI (9 + f) := nI_add 9 f
  have x18 : (18 : Int32) + nI f = nI (18 + f) := nI_add 18 f
  have x27 : (27 : Int32) + nI f = nI (27 + f) := nI_add 27 f
  have x36 : (36 : Int32) + nI f = nI (36 + f) := nI_add 36 f
  have y9 : zin (nI (9 + f)) 288 = true := zin_nI (by omega) (by decide)
  have y18 : zin (nI (18 + f)) 288 = true := zin_nI (by omega) (by decide)
  have y27 : zin (nI (27 + f)) 288 = true := zin_nI (by omega) (by decide)
  have y36 : zin (nI (36 + f)) 288 = true := zin_nI (by omega) (by decide)
  have v9 : (nI (9 + f)).toNatClampNeg = 9 + f := zcl (by omega)
  have v18 : (nI (18 + f)).toNatClampNeg = 18 + f := zcl (by omega)
  have v27 : (nI (27 + f)).toNatClampNeg = 27 + f := zcl (by omega)
  have v36 : (nI (36 + f)).toNatClampNeg = 36 + f := zcl (by omega)
  have hk2 : k = 0 ∨ k = 1 ∨ k = 2 ∨ k = 3 ∨ k = 4 ∨ k = 5 ∨ k = 6 ∨ k = 7 := by omega
  refine ans_q h (if k = 0 then σ 215 f else if k = 1 then σ 216 f else if k = 2 then sg (nI c.1) (σ 217) f else if k = 3 then σ 215 (9 + f) else if k = 4 then (if σ 215 (18 + f) = -1 then -1 else σ 215 (18 + f) - σ 215 46) else if k = 5 then (if σ 215 (18 + f) = -1 then -1 else σ 215 (27 + f)) else if k = 6 then (if σ 215 (18 + f) = -1 then 0 else σ 215 (36 + f)) else b2i (zb (σ 215 45) f)) (fun Q hq => ?_) (fun Q hq => ?_)
  · refine k_87_0 ?_
    rw [c_isFace1 hc.h14 h9 hf, if_neg (by decide)]
    have esg : sg (σ 14 3) (σ 16) f = sg (nI c.1) (σ 217) f := by unfold sg; rw [hc.h14, w2]
    have e6 : (if b2i (zb (σ 17 4) f) = 0 then (0 : Int32) else 1) = σ 215 (36 + f) := by
      rw [a5]
      rcases h36 with q | q <;> rw [q] <;> decide
    have e7 : ∀ z : Bool, (if b2i z = 0 then (0 : Int32) else 1) = b2i z := by decide
    have s6 : (if b2i (zb (σ 17 4) f) = 0 then Q 0 σ else Q 1 σ) = Q (σ 215 (36 + f)) σ := by
      rw [← e6]; split <;> rfl
    have s7 : (if b2i (zb (σ 215 45) f) = 0 then Q 0 σ else Q 1 σ) = Q (b2i (zb (σ 215 45) f)) σ := by
      rw [← e7]; split <;> rfl
    rw [if_pos z1, c1, show σ 20 f = σ 215 (18 + f) from a3]
    rcases hk2 with rfl | rfl | rfl | rfl | rfl | rfl | rfl | rfl
    all_goals
      simp (config := {decide := true}) only [↓reduceIte] at hq
      by_cases hd : σ 215 (18 + f) = -1
      · simp (config := {decide := true}) only [↓reduceIte, hd, z1, c1, c_sight14 (show f < 9 by omega), esg, s_hasN _ (show f < 32 by omega), b5, s7, show σ 18 f = σ 215 f from a1, w1, show σ 19 f = σ 215 (9 + f) from a2] at hq ⊢
        exact hq
      · simp (config := {decide := true}) only [↓reduceIte, hd, z1, c1, c_sight14 (show f < 9 by omega), esg, s_hasN _ (show f < 32 by omega), b5, b6, s7, s6, show σ 18 f = σ 215 f from a1, w1, show σ 19 f = σ 215 (9 + f) from a2, show σ 21 f = σ 215 (27 + f) from a4, show σ 20 f = σ 215 (18 + f) from a3] at hq ⊢
        exact hq
  · refine k_200_0 ?_
    rw [r_isFace1 hR h9 hf, if_neg (by decide)]
    have esg : sg ((zup σ 214 12 0) 214 1) (σ 217) f = sg (nI c.1) (σ 217) f := by rw [hR]
    rcases hk2 with rfl | rfl | rfl | rfl | rfl | rfl | rfl | rfl
    all_goals
      rw [s_in, if_neg (by decide), x18, if_pos y18, v18, e215]
      simp (config := {decide := true}) only [↓reduceIte] at hq
      by_cases hd : σ 215 (18 + f) = -1
      · simp (config := {decide := true}) only [↓reduceIte, hd, z1, z2, c1, r_sight (show f < 9 by omega), esg, e217, e216, x9, y9, v9, zb_sh _ (show f < 32 by omega)] at hq ⊢
        exact hq
      · simp (config := {decide := true}) only [↓reduceIte, hd, z1, z2, c1, r_sight (show f < 9 by omega), esg, e217, e216, x9, y9, v9, x27, y27, v27, x36, y36, v36, y18, v18, zb_sh _ (show f < 32 by omega)] at hq ⊢
        exact hq
