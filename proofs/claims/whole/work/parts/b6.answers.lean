/-! the answers of the three, said apart */ -/
def AnsV (dc mc : Nat) (ac : List Value) (dr mr : Nat) (ar : List Value) (σ : zS) (V : Int32) : Prop := (∀ Q : Int32 → zS → Prop, Q V σ → ZC dc mc ac σ Q) ∧ (∀ Q : Int32 → zS → Prop, Q V (zup σ 214 12 0) → ZC dr mr ar σ Q)
theorem ansV_q {dc mc dr mr b : Nat} {ac ar : List Value} {σ : zS} (_ : Inv b σ) (V : Int32) (hc : ∀ Q : Int32 → zS → Prop, Q V σ → ZC dc mc ac σ Q) (hr : ∀ Q : Int32 → zS → Prop, Q V (zup σ 214 12 0) → ZC dr mr ar σ Q) : AnsV dc mc ac dr mr ar σ V := ⟨hc, hr⟩
abbrev fV (F : Nat) (σ : zS) (f k : Nat) : Int32 := (if k = 0 then σ 215 f else if k = 1 then σ 216 f else if k = 2 then sg (nI F) (σ 217) f else if k = 3 then σ 215 (9 + f) else if k = 4 then (if σ 215 (18 + f) = -1 then -1 else σ 215 (18 + f) - σ 215 46) else if k = 5 then (if σ 215 (18 + f) = -1 then -1 else σ 215 (27 + f)) else if k = 6 then (if σ 215 (18 + f) = -1 then 0 else σ 215 (36 + f)) else b2i (zb (σ 215 45) f))
theorem cv_face {d e b f k : Nat} {σ : zS} (h : Inv b σ) {c : MC} {l : List Int32} {t : Nat} (hc : Ctx c l t σ) (hf : f < c.1) (hk : k ≤ 7) : AnsV (d + 4) 87 [.ref 0, .int (nI f), .int (nI k)] (e + 3) 200 [.ref 214, .int (nI f), .int (nI k)] σ (fV c.1 σ f k) := by
  have h9 := hc.h9
  have hR : (zup σ 214 12 0) 214 1 = nI c.1 := hc.hR
  have e215 : (zup σ 214 12 0) 215 = σ 215 := rfl
  have e216 : (zup σ 214 12 0) 216 = σ 216 := rfl
  have e217 : (zup σ 214 12 0) 217 = σ 217 := rfl
  obtain ⟨a1, a2, a3, a4, a5⟩ := hc.hcm.1 f hf
  obtain ⟨w1, w2⟩ := hc.hF15 hf
  have b5 : σ 17 5 = σ 215 45 := hc.h45
  have b6 : σ 17 6 = σ 215 46 := hc.hcm.2.2.2.2
  have h36 := hc.hWR.2.2.1 f hf
  have z1 : zin (nI f) 9 = true := zin_nI (by omega) (by decide)
  have z2 : zin (nI f) 288 = true := zin_nI (by omega) (by decide)
  have c1 : (nI f).toNatClampNeg = f := zcl (by omega)
  have x9 : (9 : Int32) + nI f = nI (9 + f) := nI_add 9 f
  have x18 : (18 : Int32) + nI f = nI (18 + f) := nI_add 18 f
  have x27 : (27 : Int32) + nI f = nI (27 + f) := nI_add 27 f
  have x36 : (36 : Int32) + nI f = nI (36 + f) := nI_add 36 f
  have y9 : zin (nI (9 + f)) 288 = true := zin_nI (by omega) (by decide)
  have y18 : zin (nI (18 + f)) 288 = true := zin_nI (by omega) (by decide)
  have y27 : zin (nI (27 + f)) 288 = true := zin_nI (by omega) (by decide)
  have y36 : zin (nI (36 + f)) 288 = true := zin_nI (by omega) (by decide)
  have v9 : (nI (9 + f)).toNatClampNeg = 9 + f := zcl (by omega)
  have v18 : (nI (18 + f)).toNatClampNeg = 18 + f := zcl (by omega)
  have v27 : (nI (27 + f)).toNatClampNeg = 27 + f := zcl (by omega)
  have v36 : (nI (36 + f)).toNatClampNeg = 36 + f := zcl (by omega)
  have hk2 : k = 0 ∨ k = 1 ∨ k = 2 ∨ k = 3 ∨ k = 4 ∨ k = 5 ∨ k = 6 ∨ k = 7 := by omega
  refine ansV_q h (if k = 0 then σ 215 f else if k = 1 then σ 216 f else if k = 2 then sg (nI c.1) (σ 217) f else if k = 3 then σ 215 (9 + f) else if k = 4 then (if σ 215 (18 + f) = -1 then -1 else σ 215 (18 + f) - σ 215 46) else if k = 5 then (if σ 215 (18 + f) = -1 then -1 else σ 215 (27 + f)) else if k = 6 then (if σ 215 (18 + f) = -1 then 0 else σ 215 (36 + f)) else b2i (zb (σ 215 45) f)) (fun Q hq => ?_) (fun Q hq => ?_)
  · refine k_87_0 ?_
    rw [c_isFace1 hc.h14 h9 hf, if_neg (by decide)]
    have esg : sg (σ 14 3) (σ 16) f = sg (nI c.1) (σ 217) f := by unfold sg; rw [hc.h14, w2]
    have e6 : (if b2i (zb (σ 17 4) f) = 0 then (0 : Int32) else 1) = σ 215 (36 + f) := by
      rw [a5]
      rcases h36 with q | q <;> rw [q] <;> decide
    have e7 : ∀ z : Bool, (if b2i z = 0 then (0 : Int32) else 1) = b2i z := by decide
    have s6 : (if b2i (zb (σ 17 4) f) = 0 then Q 0 σ else Q 1 σ) = Q (σ 215 (36 + f)) σ := by
      rw [← e6]; split <;> rfl
    have s7 : (if b2i (zb (σ 215 45) f) = 0 then Q 0 σ else Q 1 σ) = Q (b2i (zb (σ 215 45) f)) σ := by
      rw [← e7]; split <;> rfl
    rw [if_pos z1, c1, show σ 20 f = σ 215 (18 + f) from a3]
    rcases hk2 with rfl | rfl | rfl | rfl | rfl | rfl | rfl | rfl
    all_goals
      simp (config := {decide := true}) only [↓reduceIte] at hq
      by_cases hd : σ 215 (18 + f) = -1
      · simp (config := {decide := true}) only [↓reduceIte, hd, z1, c1, c_sight14 (show f < 9 by omega), esg, s_hasN _ (show f < 32 by omega), b5, s7, show σ 18 f = σ 215 f from a1, w1, show σ 19 f = σ 215 (9 + f) from a2] at hq ⊢
        exact hq
      · simp (config := {decide := true}) only [↓reduceIte, hd, z1, c1, c_sight14 (show f < 9 by omega), esg, s_hasN _ (show f < 32 by omega), b5, b6, s7, s6, show σ 18 f = σ 215 f from a1, w1, show σ 19 f = σ 215 (9 + f) from a2, show σ 21 f = σ 215 (27 + f) from a4, show σ 20 f = σ 215 (18 + f) from a3] at hq ⊢
        exact hq
  · refine k_200_0 ?_
    rw [r_isFace1 hR h9 hf, if_neg (by decide)]
    have esg : sg ((zup σ 214 12 0) 214 1) (σ 217) f = sg (nI c.1) (σ 217) f := by rw [hR]
    rcases hk2 with rfl | rfl | rfl | rfl | rfl | rfl | rfl | rfl
    all_goals
      rw [s_in, if_neg (by decide), x18, if_pos y18, v18, e215]
      simp (config := {decide := true}) only [↓reduceIte] at hq
      by_cases hd : σ 215 (18 + f) = -1
      · simp (config := {decide := true}) only [↓reduceIte, hd, z1, z2, c1, r_sight (show f < 9 by omega), esg, e217, e216, x9, y9, v9, zb_sh _ (show f < 32 by omega)] at hq ⊢
        exact hq
      · simp (config := {decide := true}) only [↓reduceIte, hd, z1, z2, c1, r_sight (show f < 9 by omega), esg, e217, e216, x9, y9, v9, x27, y27, v27, x36, y36, v36, y18, v18, zb_sh _ (show f < 32 by omega)] at hq ⊢
        exact hq
theorem cv_row {d e b k i : Nat} {σ : zS} (h : Inv b σ) (hk0 : σ 0 12 = nI k) (hk : σ 214 11 = nI k) (hk16 : k ≤ 16) (hi : i < k) (he : σ 190 i = σ 220 i) : AnsV (d + 1) 130 [.ref 0, .int (nI i)] (e + 3) 273 [.ref 214, .int (nI i)] σ (σ 220 i) := by
  have z1 : zin (nI i) 16 = true := zin_nI (by omega) (by decide)
  refine ansV_q h (σ 220 i) (fun Q hq => ?_) (fun Q hq => ?_)
  · refine k_130_0 ?_
    rw [if_neg (nI_pos (by omega)), hk0, if_pos (nI_lt hi (by omega)), if_pos (show nI i < Int32.ofNat 16 from nI_lt (b := 16) (by omega) (by decide)), if_pos z1, zcl (by omega), he]
    exact hq
  · refine k_273_0 ?_
    rw [hk, (s_inP (by omega) _).2 i hi rfl, if_neg (by decide), if_pos z1, zcl (by omega)]
    exact hq
abbrev bV (F : Nat) (σ : zS) (y i k : Nat) : Int32 := (if k = 0 then σ 215 (48 + 4 * bpl y i) else if k = 1 then σ 215 (48 + 4 * bpl y i + 1) else if k = 2 then σ 215 (48 + 4 * bpl y i + 2) else if k = 3 then σ 215 (48 + 4 * bpl y i + 3) else if σ 215 (48 + 4 * bpl y i + 3) = 1 then b2i (zb (zshr (so (nI F) (σ 217) (σ 214 4) F) (σ 215 (48 + 4 * bpl y i + 1))) 0) else 0)
theorem cv_book {d e b y i k : Nat} {σ : zS} (h : Inv b σ) {c : MC} {l : List Int32} {t : Nat} (hc : Ctx c l t σ) (hb : CBy (σ 215) y σ) (hy : σ 215 47 = nI y) (hi : i < (if y < 60 then y else 60)) (hk : k ≤ 4) : AnsV (d + 6) 98 [.ref 0, .int (nI i), .int (nI k)] (e + 4) 225 [.ref 214, .int (nI i), .int (nI k)] σ (bV c.1 σ y i k) := by
  have h9 := hc.h9
  have hN : (if y < 60 then y else 60) ≤ 60 := by split <;> omega
  have hR : (zup σ 214 12 0) 214 1 = nI c.1 := hc.hR
  obtain ⟨hyb, l4, l5, hl⟩ := id hb
  have hp := bpl_lt y i
  obtain ⟨p1, p2, p3, p4⟩ := hl _ hp
  have i60 : i < 60 := by omega
  have z1 : zin (nI (bpl y i)) 60 = true := zin_nI hp (by decide)
  have c1 : (nI (bpl y i)).toNatClampNeg = bpl y i := zcl (by omega)
  have g0 : nI (48 + 4 * bpl y i) + (0 : Int32) = nI (48 + 4 * bpl y i) := nI_add _ 0
  have g1 : nI (48 + 4 * bpl y i) + (1 : Int32) = nI (48 + 4 * bpl y i + 1) := nI_add _ 1
  have g2 : nI (48 + 4 * bpl y i) + (2 : Int32) = nI (48 + 4 * bpl y i + 2) := nI_add _ 2
  have g3 : nI (48 + 4 * bpl y i) + (3 : Int32) = nI (48 + 4 * bpl y i + 3) := nI_add _ 3
  have y0 : zin (nI (48 + 4 * bpl y i)) 288 = true := zin_nI (by omega) (by decide)
  have y1 : zin (nI (48 + 4 * bpl y i + 1)) 288 = true := zin_nI (by omega) (by decide)
  have y2 : zin (nI (48 + 4 * bpl y i + 2)) 288 = true := zin_nI (by omega) (by decide)
  have y3 : zin (nI (48 + 4 * bpl y i + 3)) 288 = true := zin_nI (by omega) (by decide)
  have v0 : (nI (48 + 4 * bpl y i)).toNatClampNeg = 48 + 4 * bpl y i := zcl (by omega)
  have v1 : (nI (48 + 4 * bpl y i + 1)).toNatClampNeg = 48 + 4 * bpl y i + 1 := zcl (by omega)
  have v2 : (nI (48 + 4 * bpl y i + 2)).toNatClampNeg = 48 + 4 * bpl y i + 2 := zcl (by omega)
  have v3 : (nI (48 + 4 * bpl y i + 3)).toNatClampNeg = 48 + 4 * bpl y i + 3 := zcl (by omega)
  have e215 : (zup σ 214 12 0) 215 = σ 215 := rfl
  have e217 : (zup σ 214 12 0) 217 = σ 217 := rfl
  have e4 : (zup σ 214 12 0) 214 4 = σ 214 4 := rfl
  have hk2 : k = 0 ∨ k = 1 ∨ k = 2 ∨ k = 3 ∨ k = 4 := by omega
  have hso : so (nI c.1) (σ 16) (σ 214 4) c.1 = so (nI c.1) (σ 217) (σ 214 4) c.1 := so_cong (S := σ 16) (S' := σ 217) c.1 (fun f hf => (hc.hF15 hf).2)
  refine ansV_q h (if k = 0 then σ 215 (48 + 4 * bpl y i) else if k = 1 then σ 215 (48 + 4 * bpl y i + 1) else if k = 2 then σ 215 (48 + 4 * bpl y i + 2) else if k = 3 then σ 215 (48 + 4 * bpl y i + 3) else if σ 215 (48 + 4 * bpl y i + 3) = 1 then b2i (zb (zshr (so (nI c.1) (σ 217) (σ 214 4) c.1) (σ 215 (48 + 4 * bpl y i + 1))) 0) else 0) (fun Q hq => ?_) (fun Q hq => ?_)
  · refine k_98_0 ?_
    refine k_13_0 ?_
    rw [l4, if_neg (nI_pos (by omega)), if_pos (nI_lt hi (by omega)), if_neg (by decide)]
    have s8 : ∀ Q : Int32 → zS → Prop, ∀ x z : Int32, Q (b2i (zb (zshr x z) 0)) σ → ZC (d + 5) 132 [.int x, .int z] σ (fun v8 s7 => if v8 = 0 then Q 0 s7 else Q 1 s7) := fun Q x z hq => by
      refine k_132_0 ?_
      rw [and1]
      cases hz : zb (zshr x z) 0
      · rw [hz] at hq
        rw [if_pos rfl, if_pos (show b2i false = 0 from rfl)]; exact hq
      · rw [hz] at hq
        rw [if_neg (by decide), if_neg (by decide)]; exact hq
    rcases hk2 with rfl | rfl | rfl | rfl | rfl
    all_goals
      rw [if_neg (by decide), if_neg (by decide), c_placeB hb i60, c1, if_pos z1]
      simp (config := {decide := true}) only [↓reduceIte, p1, p2, p3, p4, z1] at hq ⊢
      first | exact hq | skip
    rw [hc.hj, c_sightOf14 (F := c.1) hc.h14 h9, hso]
    by_cases hm : σ 215 (48 + 4 * bpl y i + 3) = 1
    · rw [if_pos hm] at hq ⊢
      rw [p2]
      exact s8 Q _ _ hq
    · rw [if_neg hm] at hq ⊢
      exact hq
  · refine k_225_0 ?_
    rw [r_bookMany (σ := zup σ 214 12 0) hy hyb, (s_inP (by omega) _).2 i hi rfl, if_neg (by decide)]
    have s8 : ∀ Q : Int32 → zS → Prop, ∀ x z : Int32, Q (b2i (zb (zshr x z) 0)) (zup σ 214 12 0) → ZC (e + 3) 172 [.int x, .int z] (zup σ 214 12 0) (fun v8 s7 => if v8 = 0 then Q 0 s7 else Q 1 s7) := fun Q x z hq => by
      refine k_172_0 ?_
      rw [and1]
      cases hz : zb (zshr x z) 0
      · rw [hz] at hq
        rw [if_neg (by decide), if_pos rfl]; exact hq
      · rw [hz] at hq
        rw [if_pos (show b2i true = 1 from rfl), if_neg (by decide)]; exact hq
    rcases hk2 with rfl | rfl | rfl | rfl | rfl
    all_goals
      rw [s_in, if_neg (by decide), r_lineOf (σ := zup σ 214 12 0) hy hyb (by omega)]
      simp (config := {decide := true}) only [↓reduceIte] at hq
      simp (config := {decide := true}) only [↓reduceIte, show (nI 0 : Int32) = 0 from rfl, show (nI 1 : Int32) = 1 from rfl, show (nI 2 : Int32) = 2 from rfl, show (nI 3 : Int32) = 3 from rfl, show (nI 4 : Int32) = 4 from rfl, g0, g1, g2, g3, y0, y1, y2, y3, v0, v1, v2, v3, e215]
      first | exact hq | skip
    by_cases hm : σ 215 (48 + 4 * bpl y i + 3) = 1
    · rw [if_pos hm] at hq ⊢
      rw [e4, r_seenBy (F := c.1) hR h9, e217]
      exact s8 Q _ _ hq
    · rw [if_neg hm] at hq ⊢
      exact hq
