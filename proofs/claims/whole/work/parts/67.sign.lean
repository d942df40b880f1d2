/-! four signs more -/
theorem i2b_toInt (z : Int32) : (zi2b z).toInt = z.toInt.bmod 256 := by
  unfold zi2b
  rw [Int8.toInt_toInt32, Int32.toInt_toInt8]
theorem sgn_z {z : Int32} {b : Nat} (hb : b < 256) (hz : z.toInt % 256 = (b : Int)) : chT (nI b) (zi2b (zi2b z)) := by
  have h1 : (zi2b (zi2b z)).toInt = if b < 128 then (b : Int) else (b : Int) - 256 := by
    have hz2 : z.toInt % ((256 : Nat) : Int) = (b : Int) := hz
    rw [i2b_toInt, i2b_toInt, Int.bmod_bmod, Int.bmod_def, hz2]
    by_cases h : b < 128
    · rw [if_pos h, if_pos (by omega)]
    · rw [if_neg h, if_neg (by omega)]
      rfl
  by_cases h : b < 128
  · refine ⟨b, Or.inl ⟨h, rfl⟩, Or.inl ⟨h, ?_⟩⟩
    apply Int32.toInt_inj.mp
    rw [h1, if_pos h, nI_toInt (by omega)]
  · refine ⟨999, Or.inr ⟨rfl, fun c hc q => ?_⟩, Or.inr ⟨rfl, fun c hc q => ?_⟩⟩
    · have := congrArg Int32.toInt q
      rw [nI_toInt (by omega), nI_toInt (by omega)] at this
      omega
    · have := congrArg Int32.toInt q
      rw [h1, if_neg h, nI_toInt (by omega)] at this
      omega
theorem v_toInt (v : Int32) : v.toInt = (v.toBitVec.toNat : Int) ∨ v.toInt = (v.toBitVec.toNat : Int) - 4294967296 := by
  show v.toBitVec.toInt = _ ∨ v.toBitVec.toInt = _
  rw [BitVec.toInt_eq_toNat_cond]
  split
  · exact Or.inl rfl
  · exact Or.inr rfl
theorem sgn_0 (v : Int32) : chT (zushr v 0 &&& 255) (zi2b (zi2b (zshr v 0))) := by
  rw [show zushr v 0 &&& 255 = _ from pk_and (zushr v 0) 8 (by decide), show (zushr v 0).toBitVec.toNat = _ from pk_ushr v 0 0 (by decide)]
  refine sgn_z (Nat.mod_lt _ (by decide)) ?_
  rw [show (zshr v 0).toInt = _ from pk_shr v (0 &&& 31) 0 (by decide), Int.shiftRight_eq_div_pow]
  rcases v_toInt v with h | h <;> rw [h] <;> omega
theorem sgn_8 (v : Int32) : chT (zushr v 8 &&& 255) (zi2b (zi2b (zshr v 8))) := by
  rw [show zushr v 8 &&& 255 = _ from pk_and (zushr v 8) 8 (by decide), show (zushr v 8).toBitVec.toNat = _ from pk_ushr v 8 8 (by decide)]
  refine sgn_z (Nat.mod_lt _ (by decide)) ?_
  rw [show (zshr v 8).toInt = _ from pk_shr v (8 &&& 31) 8 (by decide), Int.shiftRight_eq_div_pow]
  rcases v_toInt v with h | h <;> rw [h] <;> omega
theorem sgn_16 (v : Int32) : chT (zushr v 16 &&& 255) (zi2b (zi2b (zshr v 16))) := by
  rw [show zushr v 16 &&& 255 = _ from pk_and (zushr v 16) 8 (by decide), show (zushr v 16).toBitVec.toNat = _ from pk_ushr v 16 16 (by decide)]
  refine sgn_z (Nat.mod_lt _ (by decide)) ?_
  rw [show (zshr v 16).toInt = _ from pk_shr v (16 &&& 31) 16 (by decide), Int.shiftRight_eq_div_pow]
  rcases v_toInt v with h | h <;> rw [h] <;> omega
theorem sgn_24 (v : Int32) : chT (zushr v 24 &&& 255) (zi2b (zi2b (zshr v 24))) := by
  rw [show zushr v 24 &&& 255 = _ from pk_and (zushr v 24) 8 (by decide), show (zushr v 24).toBitVec.toNat = _ from pk_ushr v 24 24 (by decide)]
  refine sgn_z (Nat.mod_lt _ (by decide)) ?_
  rw [show (zshr v 24).toInt = _ from pk_shr v (24 &&& 31) 24 (by decide), Int.shiftRight_eq_div_pow]
  rcases v_toInt v with h | h <;> rw [h] <;> omega
def dT2 (o i : Nat) : Bool := dTs o i
theorem dTs_2 (i : Nat) : dTs 2 i = true := rfl
theorem dTs_219 (i : Nat) : dTs 219 i = true := rfl
theorem c_tput {d T : Nat} {σ : zS} (x : Int32) (h : σ 1 1 = nI T) (hT : T ≤ 76) (Q : Int32 → zS → Prop) : ZC (d + 1) 59 [.ref 1, .int x] σ Q = Q 1 (zput (zput σ 1 (upd (σ 1) 1 (nI (T + 4)))) 2 (upd (upd (upd (upd (σ 2) T (zushr x 24 &&& 255)) (T + 1) (zushr x 16 &&& 255)) (T + 2) (zushr x 8 &&& 255)) (T + 3) (zushr x 0 &&& 255))) := by
  refine s_of (fun Q h0 => k_59_0 ?_) Q
  rw [h, if_neg (nI_pos (by omega)), if_neg (show ¬ (76 : Int32) < nI T from nI_nlt (a := 76) (by omega) (by omega))]
  refine k_59_20 ?_
  rw [if_pos (by decide), h, show nI T + (0 : Int32) = nI T from Int32.add_zero _, if_pos (zin_nI (by omega) (by decide)), zcl (by omega)]
  generalize hs1 : zup σ 2 T (zushr x (24 - 8 * 0) &&& 255) = σ1
  have g1 : σ1 1 1 = nI T := by rw [← hs1]; exact h
  refine k_59_20 ?_
  rw [if_pos (by decide), g1, show nI T + (0 + 1 : Int32) = nI (T + 1) from nI_add T 1, if_pos (zin_nI (by omega) (by decide)), zcl (by omega)]
  generalize hs2 : zup σ1 2 (T + 1) (zushr x (24 - 8 * (0 + 1)) &&& 255) = σ2
  have g2 : σ2 1 1 = nI T := by rw [← hs2]; exact g1
  refine k_59_20 ?_
  rw [if_pos (by decide), g2, show nI T + (0 + 1 + 1 : Int32) = nI (T + 2) from nI_add T 2, if_pos (zin_nI (by omega) (by decide)), zcl (by omega)]
  generalize hs3 : zup σ2 2 (T + 2) (zushr x (24 - 8 * (0 + 1 + 1)) &&& 255) = σ3
  have g3 : σ3 1 1 = nI T := by rw [← hs3]; exact g2
  refine k_59_20 ?_
  rw [if_pos (by decide), g3, show nI T + (0 + 1 + 1 + 1 : Int32) = nI (T + 3) from nI_add T 3, if_pos (zin_nI (by omega) (by decide)), zcl (by omega)]
  generalize hs4 : zup σ3 2 (T + 3) (zushr x (24 - 8 * (0 + 1 + 1 + 1)) &&& 255) = σ4
  have g4 : σ4 1 1 = nI T := by rw [← hs4]; exact g3
  refine k_59_20 ?_
  rw [if_neg (by decide), g4, show nI T + (4 : Int32) = nI (T + 4) from nI_add T 4]
  have e : zup σ4 1 1 (nI (T + 4)) = zput (zput σ 1 (upd (σ 1) 1 (nI (T + 4)))) 2 (upd (upd (upd (upd (σ 2) T (zushr x 24 &&& 255)) (T + 1) (zushr x 16 &&& 255)) (T + 2) (zushr x 8 &&& 255)) (T + 3) (zushr x 0 &&& 255)) := by
    rw [← hs4, ← hs3, ← hs2, ← hs1]
    simp only [zup_eq, zput_app, zput_twice, Nat.reduceEqDiff, ↓reduceIte, zput_comm _ (show 1 < 2 by decide)]
    rfl
  rw [e]
  exact h0
theorem r_sign {d T : Nat} {σ : zS} (x : Int32) (h : σ 214 9 = nI T) (hT : T ≤ 76) (Q : Int32 → zS → Prop) : ZC (d + 1) 179 [.ref 214, .int x] σ Q = Q (nI (T + 4)) (zput (zput σ 214 (upd (upd (σ 214) 12 0) 9 (nI (T + 4)))) 219 (upd (upd (upd (upd (σ 219) T (zi2b (zi2b (zshr x 24)))) (T + 1) (zi2b (zi2b (zshr x 16)))) (T + 2) (zi2b (zi2b (zshr x 8)))) (T + 3) (zi2b (zi2b (zshr x 0))))) := by
  refine s_of (fun Q h0 => k_179_0 ?_) Q
  rw [h, show nI T + (4 : Int32) = nI (T + 4) from nI_add T 4, if_neg (show ¬ (80 : Int32) < nI (T + 4) from nI_nlt (a := 80) (by omega) (by omega))]
  generalize hs0 : zup σ 214 12 0 = σ0
  have g0 : σ0 214 9 = nI T := by rw [← hs0]; exact h
  refine k_179_20 ?_
  rw [if_neg (by decide), g0, if_pos (zin_nI (by omega) (by decide)), zcl (by omega), show nI T + (1 : Int32) = nI (T + 1) from nI_add T 1]
  generalize hs1 : zup (zup σ0 214 9 (nI (T + 1))) 219 T (zi2b (zi2b (zshr x (8 * 3)))) = σ1
  have g1 : σ1 214 9 = nI (T + 1) := by rw [← hs1]; rfl
  refine k_179_20 ?_
  rw [if_neg (by decide), g1, if_pos (zin_nI (by omega) (by decide)), zcl (by omega), show nI (T + 1) + (1 : Int32) = nI (T + 2) from nI_add _ 1]
  generalize hs2 : zup (zup σ1 214 9 (nI (T + 2))) 219 (T + 1) (zi2b (zi2b (zshr x (8 * (3 + -1))))) = σ2
  have g2 : σ2 214 9 = nI (T + 2) := by rw [← hs2]; rfl
  refine k_179_20 ?_
  rw [if_neg (by decide), g2, if_pos (zin_nI (by omega) (by decide)), zcl (by omega), show nI (T + 2) + (1 : Int32) = nI (T + 3) from nI_add _ 1]
  generalize hs3 : zup (zup σ2 214 9 (nI (T + 3))) 219 (T + 2) (zi2b (zi2b (zshr x (8 * (3 + -1 + -1))))) = σ3
  have g3 : σ3 214 9 = nI (T + 3) := by rw [← hs3]; rfl
  refine k_179_20 ?_
  rw [if_neg (by decide), g3, if_pos (zin_nI (by omega) (by decide)), zcl (by omega), show nI (T + 3) + (1 : Int32) = nI (T + 4) from nI_add _ 1]
  generalize hs4 : zup (zup σ3 214 9 (nI (T + 4))) 219 (T + 3) (zi2b (zi2b (zshr x (8 * (3 + -1 + -1 + -1))))) = σ4
  have g4 : σ4 214 9 = nI (T + 4) := by rw [← hs4]; rfl
  refine k_179_20 ?_
  rw [if_pos (by decide), g4]
  have e : σ4 = zput (zput σ 214 (upd (upd (σ 214) 12 0) 9 (nI (T + 4)))) 219 (upd (upd (upd (upd (σ 219) T (zi2b (zi2b (zshr x 24)))) (T + 1) (zi2b (zi2b (zshr x 16)))) (T + 2) (zi2b (zi2b (zshr x 8)))) (T + 3) (zi2b (zi2b (zshr x 0)))) := by
    rw [← hs4, ← hs3, ← hs2, ← hs1, ← hs0]
    simp only [zup_eq, zput_app, zput_twice, upd_same, Nat.reduceEqDiff, ↓reduceIte, zput_comm _ (show 214 < 219 by decide)]
    rfl
  rw [e]
  exact h0
theorem call_sign {d e b : Nat} {σ : zS} (x : Int32) (h : Inv b σ) : Both (d + 2) 82 [.ref 0, .int x] (e + 1) 179 [.ref 214, .int x] b σ := by
  obtain ⟨T, hT, t1, t2, t3⟩ := h.htext
  by_cases h76 : T ≤ 76
  · refine k_82_0 ?_
    rw [c_tput x t1 h76, if_neg (by decide)]
    generalize hs : zput (zput σ 1 (upd (σ 1) 1 (nI (T + 4)))) 2 (upd (upd (upd (upd (σ 2) T (zushr x 24 &&& 255)) (T + 1) (zushr x 16 &&& 255)) (T + 2) (zushr x 8 &&& 255)) (T + 3) (zushr x 0 &&& 255)) = σ1
    have g1 : σ1 1 1 = nI (T + 4) := by rw [← hs]; rfl
    have g9 : σ1 214 9 = nI T := by rw [← hs]; exact t2
    rw [g1, r_sign x g9 h76]
    have f1 : Fr dTs σ σ1 := by
      rw [← hs]
      refine Fr.tr (Fr.put (fun i q => ?_)) (Fr.put (fun i q => by rw [dTs_2] at q; cases q))
      exact upd_ne (by rintro rfl; exact absurd q (by decide))
    refine ⟨rfl, Inv.texted h (Fr.tr f1 (Fr.tr (Fr.put (fun i q => ?_)) (Fr.put (fun i q => by rw [dTs_219] at q; cases q)))) ⟨T + 4, by omega, g1, rfl, fun i hi => ?_⟩⟩
    · rw [upd_ne (by rintro rfl; exact absurd q (by decide)), upd_ne (by rintro rfl; exact absurd q (by decide))]
    · have e2 : σ1 2 = upd (upd (upd (upd (σ 2) T (zushr x 24 &&& 255)) (T + 1) (zushr x 16 &&& 255)) (T + 2) (zushr x 8 &&& 255)) (T + 3) (zushr x 0 &&& 255) := by rw [← hs]; rfl
      have e219 : σ1 219 = σ 219 := by rw [← hs]; rfl
      simp only [zput_app, Nat.reduceEqDiff, ↓reduceIte, e2, e219]
      by_cases q3 : i = T + 3
      · rw [q3, upd_eq, upd_eq]; exact sgn_0 x
      rw [upd_ne q3, upd_ne q3]
      by_cases q2 : i = T + 2
      · rw [q2, upd_eq, upd_eq]; exact sgn_8 x
      rw [upd_ne q2, upd_ne q2]
      by_cases q1 : i = T + 1
      · rw [q1, upd_eq, upd_eq]; exact sgn_16 x
      rw [upd_ne q1, upd_ne q1]
      by_cases q0 : i = T
      · rw [q0, upd_eq, upd_eq]; exact sgn_24 x
      rw [upd_ne q0, upd_ne q0]
      exact t3 i hi
  · refine both_q h (-1) none (fun Q hq => ?_) (fun σ3 f3 Q hq => ?_)
    · refine k_82_0 ?_
      refine k_59_0 ?_
      rw [t1, if_neg (nI_pos (by omega)), if_pos (show (76 : Int32) < nI T from nI_lt (a := 76) (by omega) (by omega)), if_pos rfl]
      exact hq σ Fr.rf
    · refine k_179_0 ?_
      rw [(f3 214 9 (by decide)).trans t2, show nI T + (4 : Int32) = nI (T + 4) from nI_add T 4, if_pos (show (80 : Int32) < nI (T + 4) from nI_lt (a := 80) (by omega) (by omega))]
      exact hq _ fr12
