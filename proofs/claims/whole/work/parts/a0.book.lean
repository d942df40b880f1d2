theorem and1 (x : Int32) : x &&& 1 = b2i (zb x 0) := by
  have e1 : (1 : Int32) = zshl 1 (nI 0) := by decide
  apply zb_ext
  intro f hf
  have h1 : zb (1 : Int32) f = decide (f = 0) := by
    conv => lhs; rw [e1]
    exact zb_one 0 (by decide) f hf
  rw [zb_and, h1]
  by_cases h : f = 0
  · subst h
    cases hz : zb x 0
    · decide
    · decide
  · rw [decide_eq_false h, Bool.and_false]
    cases zb x 0
    · exact (zb_0 f).symm
    · show false = zb (1 : Int32) f
      rw [h1, decide_eq_false h]
theorem call_book {d e b y i k : Nat} {σ : zS} (h : Inv b σ) {c : MC} {l : List Int32} {t : Nat} (hc : Ctx c l t σ) (hb : CBy (σ 215) y σ) (hy : σ 215 47 = nI y) (hi : i < (if y < 60 then y else 60)) (hk : k ≤ 4) : Ans (d + 6) 98 [.ref 0, .int (nI i), .int (nI k)] (e + 4) 225 [.ref 214, .int (nI i), .int (nI k)] b σ := by
  have h9 := hc.h9
  have hN : (if y < 60 then y else 60) ≤ 60 := by split <;> omega
  have hR : (zup σ 214 12 0) 214 1 = nI c.1 := hc.hR
  obtain ⟨hyb, l4, l5, hl⟩ := id hb
  have hp := bpl_lt y i
  obtain ⟨p1, p2, p3, p4⟩ := hl _ hp
  have i60 : i < 60 := by omega
  have z1 : zin (nI (bpl y i)) 60 = true := zin_nI hp (by decide)
  have c1 : (nI (bpl y i)).toNatClampNeg = bpl y i := zcl (by omega)
  have g0 : nI (48 + 4 * bpl y i) + (0 : Int32) = nI (48 + 4 * bpl y i) := nI_add _ 0
  have g1 : nI (48 + 4 * bpl y i) + (1 : Int32) = nI (48 + 4 * bpl y i + 1) := nI_add _ 1
  have g2 : nI (48 + 4 * bpl y i) + (2 : Int32) = nI (48 + 4 * bpl y i + 2) := nI_add _ 2
  have g3 : nI (48 + 4 * bpl y i) + (3 : Int32) = nI (48 + 4 * bpl y i + 3) := nI_add _ 3
  have y0 : zin (nI (48 + 4 * bpl y i)) 288 = true := zin_nI (by omega) (by decide)
  have y1 : zin (nI (48 + 4 * bpl y i + 1)) 288 = true := zin_nI (by omega) (by decide)
  have y2 : zin (nI (48 + 4 * bpl y i + 2)) 288 = true := zin_nI (by omega) (by decide)
  have y3 : zin (nI (48 + 4 * bpl y i + 3)) 288 = true := zin_nI (by omega) (by decide)
  have v0 : (nI (48 + 4 * bpl y i)).toNatClampNeg = 48 + 4 * bpl y i := zcl (by omega)
  have v1 : (nI (48 + 4 * bpl y i + 1)).toNatClampNeg = 48 + 4 * bpl y i + 1 := zcl (by omega)
  have v2 : (nI (48 + 4 * bpl y i + 2)).toNatClampNeg = 48 + 4 * bpl y i + 2 := zcl (by omega)
  have v3 : (nI (48 + 4 * bpl y i + 3)).toNatClampNeg = 48 + 4 * bpl y i + 3 := zcl (by omega)
  have e215 : (zup σ 214 12 0) 215 = σ 215 := rfl
  have e217 : (zup σ 214 12 0) 217 = σ 217 := rfl
  have e4 : (zup σ 214 12 0) 214 4 = σ 214 4 := rfl
  have hk2 : k = 0 ∨ k = 1 ∨ k = 2 ∨ k = 3 ∨ k = 4 := by omega
  have hso : so (nI c.1) (σ 16) (σ 214 4) c.1 = so (nI c.1) (σ 217) (σ 214 4) c.1 := so_cong (S := σ 16) (S' := σ 217) c.1 (fun f hf => (hc.hF15 hf).2)
  refine ans_q h (if k = 0 then σ 215 (48 + 4 * bpl y i) else if k = 1 then σ 215 (48 + 4 * bpl y i + 1) else if k = 2 then σ 215 (48 + 4 * bpl y i + 2) else if k = 3 then σ 215 (48 + 4 * bpl y i + 3) else if σ 215 (48 + 4 * bpl y i + 3) = 1 then b2i (zb (zshr (so (nI c.1) (σ 217) (σ 214 4) c.1) (σ 215 (48 + 4 * bpl y i + 1))) 0) else 0) (fun Q hq => ?_) (fun Q hq => ?_)
  · refine k_98_0 ?_
    refine k_13_0 ?_
    rw [l4, if_neg (nI_pos (by omega)), if_pos (nI_lt hi (by omega)), if_neg (by decide)]
    have s8 : ∀ Q : Int32 → zS → Prop, ∀ x z : Int32, Q (b2i (zb (zshr x z) 0)) σ → ZC (d + 5) 132 [.int x, .int z] σ (fun v8 s7 => if v8 = 0 then Q 0 s7 else Q 1 s7) := fun Q x z hq => by
      refine k_132_0 ?_
      rw [and1]
      cases hz : zb (zshr x z) 0
      · rw [hz] at hq
        rw [if_pos rfl, if_pos (show b2i false = 0 from rfl)]; exact hq
      · rw [hz] at hq
        rw [if_neg (by decide), if_neg (by decide)]; exact hq
    rcases hk2 with rfl | rfl | rfl | rfl | rfl
    all_goals
      rw [if_neg (by decide), if_neg (by decide), c_placeB hb i60, c1, if_pos z1]
      simp (config := {decide := true}) only [↓reduceIte, p1, p2, p3, p4, z1] at hq ⊢
      first | exact hq | skip
    rw [hc.hj, c_sightOf14 (F := c.1) hc.h14 h9, hso]
    by_cases hm : σ 215 (48 + 4 * bpl y i + 3) = 1
    · rw [if_pos hm] at hq ⊢
      rw [p2]
      exact s8 Q _ _ hq
    · rw [if_neg hm] at hq ⊢
      exact hq
  · refine k_225_0 ?_
    rw [r_bookMany (σ := zup σ 214 12 0) hy hyb, (s_inP (by omega) _).2 i hi rfl, if_neg (by decide)]
    have s8 : ∀ Q : Int32 → zS → Prop, ∀ x z : Int32, Q (b2i (zb (zshr x z) 0)) (zup σ 214 12 0) → ZC (e + 3) 172 [.int x, .int z] (zup σ 214 12 0) (fun v8 s7 => if v8 = 0 then Q 0 s7 else Q 1 s7) := fun Q x z hq => by
      refine k_172_0 ?_
      rw [and1]
      cases hz : zb (zshr x z) 0
      · rw [hz] at hq
        rw [if_neg (by decide), if_pos rfl]; exact hq
      · rw [hz] at hq
        rw [if_pos (show b2i true = 1 from rfl), if_neg (by decide)]; exact hq
    rcases hk2 with rfl | rfl | rfl | rfl | rfl
    all_goals
      rw [s_in, if_neg (by decide), r_lineOf (σ := zup σ 214 12 0) hy hyb (by omega)]
      simp (config := {decide := true}) only [↓reduceIte] at hq
      simp (config := {decide := true}) only [↓reduceIte, show (nI 0 : Int32) = 0 from rfl, show (nI 1 : Int32) = 1 from rfl, show (nI 2 : Int32) = 2 from rfl, show (nI 3 : Int32) = 3 from rfl, show (nI 4 : Int32) = 4 from rfl, g0, g1, g2, g3, y0, y1, y2, y3, v0, v1, v2, v3, e215]
      first | exact hq | skip
    by_cases hm : σ 215 (48 + 4 * bpl y i + 3) = 1
    · rw [if_pos hm] at hq ⊢
      rw [e4, r_seenBy (F := c.1) hR h9, e217]
      exact s8 Q _ _ hq
    · rw [if_neg hm] at hq ⊢
      exact hq
