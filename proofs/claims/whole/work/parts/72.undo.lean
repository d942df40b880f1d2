/-! undo -/
def pGv (o _i : Nat) : Bool := decide ((17 ≤ o ∧ o ≤ 21) ∨ (32 ≤ o ∧ o ≤ 36))
theorem c_pop39 {d F b : Nat} {r : Nat → Int32} {w : Value} {σ : zS} {Q : Int32 → zS → Prop} (h9 : F ≤ 9) (hs : SN 39 F b r σ) (hq : ∀ σ2, Fr pGv σ σ2 → CM 17 F r σ2 → CB 32 r σ2 → Q 1 σ2) : Z (d + 2) 37 Q 44 [.ref 37, .ref 14, .ref 32, w] [.ref 39] σ := by
  obtain ⟨s1, s2, -⟩ := hs
  refine k_37_44_39 ?_
  refine k_24_0_i39_14_32 ?_
  refine c_mtake17_40 (fun σ1 f1 g1 => ?_)
  refine c_btake32_45 (fun σ2 f2 g2 => ?_)
  refine hq σ2 (Fr.tr (Fr.mono f1 (fun o i q => ?_)) (Fr.mono f2 (fun o i q => ?_))) (CM.ag (CM.copy h9 g1 s1) (fun o i p1 p2 => f2 o i (decide_eq_false (by omega)))) (CB.copy g2 (CB.ag s2 (fun _ _ _ => rfl) (fun o i p1 p2 => f1 o i (decide_eq_false (by omega)))))
  · have q := of_decide_eq_false q
    exact decide_eq_false (by omega)
  · have q := of_decide_eq_false q
    exact decide_eq_false (by omega)
theorem c_pop50 {d F b : Nat} {r : Nat → Int32} {w : Value} {σ : zS} {Q : Int32 → zS → Prop} (h9 : F ≤ 9) (hs : SN 50 F b r σ) (hq : ∀ σ2, Fr pGv σ σ2 → CM 17 F r σ2 → CB 32 r σ2 → Q 1 σ2) : Z (d + 2) 37 Q 44 [.ref 37, .ref 14, .ref 32, w] [.ref 50] σ := by
  obtain ⟨s1, s2, -⟩ := hs
  refine k_37_44_50 ?_
  refine k_24_0_i50_14_32 ?_
  refine c_mtake17_51 (fun σ1 f1 g1 => ?_)
  refine c_btake32_56 (fun σ2 f2 g2 => ?_)
  refine hq σ2 (Fr.tr (Fr.mono f1 (fun o i q => ?_)) (Fr.mono f2 (fun o i q => ?_))) (CM.ag (CM.copy h9 g1 s1) (fun o i p1 p2 => f2 o i (decide_eq_false (by omega)))) (CB.copy g2 (CB.ag s2 (fun _ _ _ => rfl) (fun o i p1 p2 => f1 o i (decide_eq_false (by omega)))))
  · have q := of_decide_eq_false q
    exact decide_eq_false (by omega)
  · have q := of_decide_eq_false q
    exact decide_eq_false (by omega)
theorem c_pop61 {d F b : Nat} {r : Nat → Int32} {w : Value} {σ : zS} {Q : Int32 → zS → Prop} (h9 : F ≤ 9) (hs : SN 61 F b r σ) (hq : ∀ σ2, Fr pGv σ σ2 → CM 17 F r σ2 → CB 32 r σ2 → Q 1 σ2) : Z (d + 2) 37 Q 44 [.ref 37, .ref 14, .ref 32, w] [.ref 61] σ := by
  obtain ⟨s1, s2, -⟩ := hs
  refine k_37_44_61 ?_
  refine k_24_0_i61_14_32 ?_
  refine c_mtake17_62 (fun σ1 f1 g1 => ?_)
  refine c_btake32_67 (fun σ2 f2 g2 => ?_)
  refine hq σ2 (Fr.tr (Fr.mono f1 (fun o i q => ?_)) (Fr.mono f2 (fun o i q => ?_))) (CM.ag (CM.copy h9 g1 s1) (fun o i p1 p2 => f2 o i (decide_eq_false (by omega)))) (CB.copy g2 (CB.ag s2 (fun _ _ _ => rfl) (fun o i p1 p2 => f1 o i (decide_eq_false (by omega)))))
  · have q := of_decide_eq_false q
    exact decide_eq_false (by omega)
  · have q := of_decide_eq_false q
    exact decide_eq_false (by omega)
theorem c_pop72 {d F b : Nat} {r : Nat → Int32} {w : Value} {σ : zS} {Q : Int32 → zS → Prop} (h9 : F ≤ 9) (hs : SN 72 F b r σ) (hq : ∀ σ2, Fr pGv σ σ2 → CM 17 F r σ2 → CB 32 r σ2 → Q 1 σ2) : Z (d + 2) 37 Q 44 [.ref 37, .ref 14, .ref 32, w] [.ref 72] σ := by
  obtain ⟨s1, s2, -⟩ := hs
  refine k_37_44_72 ?_
  refine k_24_0_i72_14_32 ?_
  refine c_mtake17_73 (fun σ1 f1 g1 => ?_)
  refine c_btake32_78 (fun σ2 f2 g2 => ?_)
  refine hq σ2 (Fr.tr (Fr.mono f1 (fun o i q => ?_)) (Fr.mono f2 (fun o i q => ?_))) (CM.ag (CM.copy h9 g1 s1) (fun o i p1 p2 => f2 o i (decide_eq_false (by omega)))) (CB.copy g2 (CB.ag s2 (fun _ _ _ => rfl) (fun o i p1 p2 => f1 o i (decide_eq_false (by omega)))))
  · have q := of_decide_eq_false q
    exact decide_eq_false (by omega)
  · have q := of_decide_eq_false q
    exact decide_eq_false (by omega)
theorem c_pop83 {d F b : Nat} {r : Nat → Int32} {w : Value} {σ : zS} {Q : Int32 → zS → Prop} (h9 : F ≤ 9) (hs : SN 83 F b r σ) (hq : ∀ σ2, Fr pGv σ σ2 → CM 17 F r σ2 → CB 32 r σ2 → Q 1 σ2) : Z (d + 2) 37 Q 44 [.ref 37, .ref 14, .ref 32, w] [.ref 83] σ := by
  obtain ⟨s1, s2, -⟩ := hs
  refine k_37_44_83 ?_
  refine k_24_0_i83_14_32 ?_
  refine c_mtake17_84 (fun σ1 f1 g1 => ?_)
  refine c_btake32_89 (fun σ2 f2 g2 => ?_)
  refine hq σ2 (Fr.tr (Fr.mono f1 (fun o i q => ?_)) (Fr.mono f2 (fun o i q => ?_))) (CM.ag (CM.copy h9 g1 s1) (fun o i p1 p2 => f2 o i (decide_eq_false (by omega)))) (CB.copy g2 (CB.ag s2 (fun _ _ _ => rfl) (fun o i p1 p2 => f1 o i (decide_eq_false (by omega)))))
  · have q := of_decide_eq_false q
    exact decide_eq_false (by omega)
  · have q := of_decide_eq_false q
    exact decide_eq_false (by omega)
theorem c_pop94 {d F b : Nat} {r : Nat → Int32} {w : Value} {σ : zS} {Q : Int32 → zS → Prop} (h9 : F ≤ 9) (hs : SN 94 F b r σ) (hq : ∀ σ2, Fr pGv σ σ2 → CM 17 F r σ2 → CB 32 r σ2 → Q 1 σ2) : Z (d + 2) 37 Q 44 [.ref 37, .ref 14, .ref 32, w] [.ref 94] σ := by
  obtain ⟨s1, s2, -⟩ := hs
  refine k_37_44_94 ?_
  refine k_24_0_i94_14_32 ?_
  refine c_mtake17_95 (fun σ1 f1 g1 => ?_)
  refine c_btake32_100 (fun σ2 f2 g2 => ?_)
  refine hq σ2 (Fr.tr (Fr.mono f1 (fun o i q => ?_)) (Fr.mono f2 (fun o i q => ?_))) (CM.ag (CM.copy h9 g1 s1) (fun o i p1 p2 => f2 o i (decide_eq_false (by omega)))) (CB.copy g2 (CB.ag s2 (fun _ _ _ => rfl) (fun o i p1 p2 => f1 o i (decide_eq_false (by omega)))))
  · have q := of_decide_eq_false q
    exact decide_eq_false (by omega)
  · have q := of_decide_eq_false q
    exact decide_eq_false (by omega)
theorem c_pop105 {d F b : Nat} {r : Nat → Int32} {w : Value} {σ : zS} {Q : Int32 → zS → Prop} (h9 : F ≤ 9) (hs : SN 105 F b r σ) (hq : ∀ σ2, Fr pGv σ σ2 → CM 17 F r σ2 → CB 32 r σ2 → Q 1 σ2) : Z (d + 2) 37 Q 44 [.ref 37, .ref 14, .ref 32, w] [.ref 105] σ := by
  obtain ⟨s1, s2, -⟩ := hs
  refine k_37_44_105 ?_
  refine k_24_0_i105_14_32 ?_
  refine c_mtake17_106 (fun σ1 f1 g1 => ?_)
  refine c_btake32_111 (fun σ2 f2 g2 => ?_)
  refine hq σ2 (Fr.tr (Fr.mono f1 (fun o i q => ?_)) (Fr.mono f2 (fun o i q => ?_))) (CM.ag (CM.copy h9 g1 s1) (fun o i p1 p2 => f2 o i (decide_eq_false (by omega)))) (CB.copy g2 (CB.ag s2 (fun _ _ _ => rfl) (fun o i p1 p2 => f1 o i (decide_eq_false (by omega)))))
  · have q := of_decide_eq_false q
    exact decide_eq_false (by omega)
  · have q := of_decide_eq_false q
    exact decide_eq_false (by omega)
theorem c_pop116 {d F b : Nat} {r : Nat → Int32} {w : Value} {σ : zS} {Q : Int32 → zS → Prop} (h9 : F ≤ 9) (hs : SN 116 F b r σ) (hq : ∀ σ2, Fr pGv σ σ2 → CM 17 F r σ2 → CB 32 r σ2 → Q 1 σ2) : Z (d + 2) 37 Q 44 [.ref 37, .ref 14, .ref 32, w] [.ref 116] σ := by
  obtain ⟨s1, s2, -⟩ := hs
  refine k_37_44_116 ?_
  refine k_24_0_i116_14_32 ?_
  refine c_mtake17_117 (fun σ1 f1 g1 => ?_)
  refine c_btake32_122 (fun σ2 f2 g2 => ?_)
  refine hq σ2 (Fr.tr (Fr.mono f1 (fun o i q => ?_)) (Fr.mono f2 (fun o i q => ?_))) (CM.ag (CM.copy h9 g1 s1) (fun o i p1 p2 => f2 o i (decide_eq_false (by omega)))) (CB.copy g2 (CB.ag s2 (fun _ _ _ => rfl) (fun o i p1 p2 => f1 o i (decide_eq_false (by omega)))))
  · have q := of_decide_eq_false q
    exact decide_eq_false (by omega)
  · have q := of_decide_eq_false q
    exact decide_eq_false (by omega)
theorem c_pop127 {d F b : Nat} {r : Nat → Int32} {w : Value} {σ : zS} {Q : Int32 → zS → Prop} (h9 : F ≤ 9) (hs : SN 127 F b r σ) (hq : ∀ σ2, Fr pGv σ σ2 → CM 17 F r σ2 → CB 32 r σ2 → Q 1 σ2) : Z (d + 2) 37 Q 44 [.ref 37, .ref 14, .ref 32, w] [.ref 127] σ := by
  obtain ⟨s1, s2, -⟩ := hs
  refine k_37_44_127 ?_
  refine k_24_0_i127_14_32 ?_
  refine c_mtake17_128 (fun σ1 f1 g1 => ?_)
  refine c_btake32_133 (fun σ2 f2 g2 => ?_)
  refine hq σ2 (Fr.tr (Fr.mono f1 (fun o i q => ?_)) (Fr.mono f2 (fun o i q => ?_))) (CM.ag (CM.copy h9 g1 s1) (fun o i p1 p2 => f2 o i (decide_eq_false (by omega)))) (CB.copy g2 (CB.ag s2 (fun _ _ _ => rfl) (fun o i p1 p2 => f1 o i (decide_eq_false (by omega)))))
  · have q := of_decide_eq_false q
    exact decide_eq_false (by omega)
  · have q := of_decide_eq_false q
    exact decide_eq_false (by omega)
theorem c_pop138 {d F b : Nat} {r : Nat → Int32} {w : Value} {σ : zS} {Q : Int32 → zS → Prop} (h9 : F ≤ 9) (hs : SN 138 F b r σ) (hq : ∀ σ2, Fr pGv σ σ2 → CM 17 F r σ2 → CB 32 r σ2 → Q 1 σ2) : Z (d + 2) 37 Q 44 [.ref 37, .ref 14, .ref 32, w] [.ref 138] σ := by
  obtain ⟨s1, s2, -⟩ := hs
  refine k_37_44_138 ?_
  refine k_24_0_i138_14_32 ?_
  refine c_mtake17_139 (fun σ1 f1 g1 => ?_)
  refine c_btake32_144 (fun σ2 f2 g2 => ?_)
  refine hq σ2 (Fr.tr (Fr.mono f1 (fun o i q => ?_)) (Fr.mono f2 (fun o i q => ?_))) (CM.ag (CM.copy h9 g1 s1) (fun o i p1 p2 => f2 o i (decide_eq_false (by omega)))) (CB.copy g2 (CB.ag s2 (fun _ _ _ => rfl) (fun o i p1 p2 => f1 o i (decide_eq_false (by omega)))))
  · have q := of_decide_eq_false q
    exact decide_eq_false (by omega)
  · have q := of_decide_eq_false q
    exact decide_eq_false (by omega)
theorem c_pop149 {d F b : Nat} {r : Nat → Int32} {w : Value} {σ : zS} {Q : Int32 → zS → Prop} (h9 : F ≤ 9) (hs : SN 149 F b r σ) (hq : ∀ σ2, Fr pGv σ σ2 → CM 17 F r σ2 → CB 32 r σ2 → Q 1 σ2) : Z (d + 2) 37 Q 44 [.ref 37, .ref 14, .ref 32, w] [.ref 149] σ := by
  obtain ⟨s1, s2, -⟩ := hs
  refine k_37_44_149 ?_
  refine k_24_0_i149_14_32 ?_
  refine c_mtake17_150 (fun σ1 f1 g1 => ?_)
  refine c_btake32_155 (fun σ2 f2 g2 => ?_)
  refine hq σ2 (Fr.tr (Fr.mono f1 (fun o i q => ?_)) (Fr.mono f2 (fun o i q => ?_))) (CM.ag (CM.copy h9 g1 s1) (fun o i p1 p2 => f2 o i (decide_eq_false (by omega)))) (CB.copy g2 (CB.ag s2 (fun _ _ _ => rfl) (fun o i p1 p2 => f1 o i (decide_eq_false (by omega)))))
  · have q := of_decide_eq_false q
    exact decide_eq_false (by omega)
  · have q := of_decide_eq_false q
    exact decide_eq_false (by omega)
theorem c_pop160 {d F b : Nat} {r : Nat → Int32} {w : Value} {σ : zS} {Q : Int32 → zS → Prop} (h9 : F ≤ 9) (hs : SN 160 F b r σ) (hq : ∀ σ2, Fr pGv σ σ2 → CM 17 F r σ2 → CB 32 r σ2 → Q 1 σ2) : Z (d + 2) 37 Q 44 [.ref 37, .ref 14, .ref 32, w] [.ref 160] σ := by
  obtain ⟨s1, s2, -⟩ := hs
  refine k_37_44_160 ?_
  refine k_24_0_i160_14_32 ?_
  refine c_mtake17_161 (fun σ1 f1 g1 => ?_)
  refine c_btake32_166 (fun σ2 f2 g2 => ?_)
  refine hq σ2 (Fr.tr (Fr.mono f1 (fun o i q => ?_)) (Fr.mono f2 (fun o i q => ?_))) (CM.ag (CM.copy h9 g1 s1) (fun o i p1 p2 => f2 o i (decide_eq_false (by omega)))) (CB.copy g2 (CB.ag s2 (fun _ _ _ => rfl) (fun o i p1 p2 => f1 o i (decide_eq_false (by omega)))))
  · have q := of_decide_eq_false q
    exact decide_eq_false (by omega)
  · have q := of_decide_eq_false q
    exact decide_eq_false (by omega)
theorem c_pop171 {d F b : Nat} {r : Nat → Int32} {w : Value} {σ : zS} {Q : Int32 → zS → Prop} (h9 : F ≤ 9) (hs : SN 171 F b r σ) (hq : ∀ σ2, Fr pGv σ σ2 → CM 17 F r σ2 → CB 32 r σ2 → Q 1 σ2) : Z (d + 2) 37 Q 44 [.ref 37, .ref 14, .ref 32, w] [.ref 171] σ := by
  obtain ⟨s1, s2, -⟩ := hs
  refine k_37_44_171 ?_
  refine k_24_0_i171_14_32 ?_
  refine c_mtake17_172 (fun σ1 f1 g1 => ?_)
  refine c_btake32_177 (fun σ2 f2 g2 => ?_)
  refine hq σ2 (Fr.tr (Fr.mono f1 (fun o i q => ?_)) (Fr.mono f2 (fun o i q => ?_))) (CM.ag (CM.copy h9 g1 s1) (fun o i p1 p2 => f2 o i (decide_eq_false (by omega)))) (CB.copy g2 (CB.ag s2 (fun _ _ _ => rfl) (fun o i p1 p2 => f1 o i (decide_eq_false (by omega)))))
  · have q := of_decide_eq_false q
    exact decide_eq_false (by omega)
  · have q := of_decide_eq_false q
    exact decide_eq_false (by omega)
theorem c_popAll {d F b i : Nat} {r : Nat → Int32} {w : Value} {σ : zS} {Q : Int32 → zS → Prop} (hi : i < 13) (h9 : F ≤ 9) (hs : SN (39 + 11 * i) F b r σ) (hq : ∀ σ2, Fr pGv σ σ2 → CM 17 F r σ2 → CB 32 r σ2 → Q 1 σ2) : Z (d + 2) 37 Q 44 [.ref 37, .ref 14, .ref 32, w] [.ref ([39, 50, 61, 72, 83, 94, 105, 116, 127, 138, 149, 160, 171].getD i 0)] σ := by
  have h : i = 0 ∨ i = 1 ∨ i = 2 ∨ i = 3 ∨ i = 4 ∨ i = 5 ∨ i = 6 ∨ i = 7 ∨ i = 8 ∨ i = 9 ∨ i = 10 ∨ i = 11 ∨ i = 12 := by omega
  rcases h with rfl | rfl | rfl | rfl | rfl | rfl | rfl | rfl | rfl | rfl | rfl | rfl | rfl
  · exact c_pop39 h9 hs hq
  · exact c_pop50 h9 hs hq
  · exact c_pop61 h9 hs hq
  · exact c_pop72 h9 hs hq
  · exact c_pop83 h9 hs hq
  · exact c_pop94 h9 hs hq
  · exact c_pop105 h9 hs hq
  · exact c_pop116 h9 hs hq
  · exact c_pop127 h9 hs hq
  · exact c_pop138 h9 hs hq
  · exact c_pop149 h9 hs hq
  · exact c_pop160 h9 hs hq
  · exact c_pop171 h9 hs hq
theorem nI_m1' {k : Nat} : nI (k + 1) - 1 = nI k := by rw [← nI_add]; exact Int32.add_sub_cancel (nI k) 1
theorem call_undo {d e b : Nat} {σ : zS} (h : Inv b σ) : Both (d + 4) 97 [.ref 0] (e + 1) 222 [.ref 214] b σ := by
  have hi := h
  obtain ⟨F, l, W, hw, -, -, -, -, -, -, -, -, ⟨s, x, p1, p2, p3, p4, p5, p6⟩, -, -⟩ := hi
  have h9 : F ≤ 9 := hw.1
  have hF := hw.2.1
  by_cases hs0 : s = 0
  · subst hs0
    refine both_q h (-1) none (fun Q hq => ?_) (fun σ3 f3 Q hq => ?_)
    · refine k_97_0 ?_
      refine k_37_0 ?_
      rw [p3, if_neg (by decide), if_pos rfl]
      exact hq σ Fr.rf
    · refine k_222_0 ?_
      rw [(f3 214 30 (by decide)).trans p5, if_pos (show nI 0 = (0 : Int32) from rfl)]
      exact hq _ fr12
  obtain ⟨s', rfl⟩ : ∃ s', s = s' + 1 := ⟨s - 1, by omega⟩
  refine k_97_0 ?_
  refine k_37_0 ?_
  rw [p3, p4, if_pos (show (0 : Int32) < nI (s' + 1) from nI_lt (a := 0) (by omega) (by omega)), show nI x + (13 : Int32) = nI (x + 12 + 1) from nI_add x 13, nI_m1', show zrem (nI (x + 12)) 13 = nI ((x + 12) % 13) from zrem_nI (b := 13) (by omega) (by decide) (by decide), if_pos (zin_nI (Nat.mod_lt _ (by decide)) (by decide)), zcl (Nat.lt_trans (Nat.mod_lt _ (by decide)) (by decide)), nI_m1']
  have hx' : (x + 12) % 13 < 13 := Nat.mod_lt _ (by decide)
  generalize hsa : zup (zup σ 37 2 (nI ((x + 12) % 13))) 37 0 (nI s') = σa
  have oa : ∀ o i, o ≠ 37 → σa o i = σ o i := fun o i q => by
    rw [← hsa]
    simp only [zup_eq, zput_app]
    rw [if_neg q, if_neg q]
  have a0 : σa 37 0 = nI s' := by rw [← hsa]; rfl
  have a2 : σa 37 2 = nI ((x + 12) % 13) := by rw [← hsa]; rfl
  have hsn := p6 0 (by omega)
  have hsn2 : SN (39 + 11 * ((x + 12) % 13)) F b (fun i => σ 223 (288 * s' + i)) σa := SN.ag hsn (fun o i q1 q2 => oa o i (by omega))
  refine c_popAll hx' h9 hsn2 (fun σ3 f3 c17 c32 => ?_)
  rw [if_neg (by decide)]
  have f3' : ∀ o i, ¬ (17 ≤ o ∧ o ≤ 21) → ¬ (32 ≤ o ∧ o ≤ 36) → σ3 o i = σa o i := fun o i q1 q2 => f3 o i (decide_eq_false (by omega))
  have fo : ∀ o i, ¬ (17 ≤ o ∧ o ≤ 21) → ¬ (32 ≤ o ∧ o ≤ 37) → σ3 o i = σ o i := fun o i q1 q2 => (f3' o i q1 (by omega)).trans (oa o i (by omega))
  rw [(f3' 37 0 (by omega) (by omega)).trans a0]
  refine k_222_0 ?_
  have e30 : σ3 214 30 = nI (s' + 1) := (fo 214 30 (by omega) (by omega)).trans p5
  rw [e30, if_neg (show ¬ nI (s' + 1) = (0 : Int32) from fun q => absurd ((nI_eq (a := s' + 1) (b := 0) (by omega) (by decide)).mp q) (by omega)), nI_m1']
  generalize hsb : zup (zup σ3 214 12 0) 214 30 (nI s') = σb
  have ob : ∀ o i, o ≠ 214 → σb o i = σ3 o i := fun o i q => by
    rw [← hsb]
    simp only [zup_eq, zput_app]
    rw [if_neg q, if_neg q]
  have b30 : σb 214 30 = nI s' := by rw [← hsb]; rfl
  have f3b : Fr dAs σ3 σb := by rw [← hsb]; exact Fr.tr (Fr.up (by decide)) (Fr.up (by decide))
  have hloop := z_for (F := 288) (P := fun k => ∀ g : Nat → Int32, (∀ i, i < k → g i = σ 223 (288 * s' + i)) → Z e 222 (fun v2 σ2 => nI s' = v2 ∧ Inv b σ2) 26 [.ref 214, .int (nI k)] [] (zput σb 215 g)) (fun k hk ih g hg => ?_) (fun g hg => ?_)
  · have := hloop (σb 215) (fun i hi => absurd hi (Nat.not_lt_zero i))
    rw [zput_self] at this
    exact this
  · refine k_222_26 ?_
    rw [show (zput σb 215 g) 214 30 = nI s' from b30, if_pos (show nI k < (288 : Int32) from nI_lt (b := 288) hk (by decide)), zm288, nI_add, if_pos (zin_nI (by omega) (by decide)), if_pos (zin_nI (by omega) (by decide)), zcl (by omega), zcl (by omega), show nI k + (1 : Int32) = nI (k + 1) from nI_add k 1]
    have e : zup (zput σb 215 g) 215 k ((zput σb 215 g) 223 (288 * s' + k)) = zput σb 215 (upd g k (σ 223 (288 * s' + k))) := by
      rw [zup_eq, zput_twice]
      simp only [zput_app, ↓reduceIte, Nat.reduceEqDiff]
      rw [(ob 223 _ (by decide)).trans (fo 223 _ (by omega) (by omega))]
    rw [e]
    refine ih _ (fun i hi => ?_)
    by_cases hik : i = k
    · subst hik; rw [upd_eq]
    · rw [upd_ne hik]; exact hg i (by omega)
  · refine k_222_26 ?_
    rw [if_neg (by decide), show (zput σb 215 g) 214 30 = nI s' from b30]
    generalize hs4 : zput σb 215 g = σ4
    have o4 : ∀ o i, o ≠ 214 → o ≠ 215 → σ4 o i = σ3 o i := fun o i q1 q2 => by
      rw [← hs4, zput_app, if_neg q2]
      exact ob o i q1
    have e215 : σ4 215 = g := by rw [← hs4]; rfl
    have e30' : σ4 214 30 = nI s' := by rw [← hs4]; exact b30
    refine ⟨rfl, Inv.rowed h (Fr.tr ?_ (Fr.tr (Fr.mono f3 (fun o i q => ?_)) (Fr.tr f3b ?_))) (fun F' hw' hr hk hp => ?_)⟩
    · rw [← hsa]; exact Fr.tr (Fr.up (by decide)) (Fr.up (by decide))
    · refine decide_eq_false (fun h => ?_)
      rw [dAs_o (by omega)] at q; cases q
    · rw [← hs4]; exact Fr.put (fun i q => by rw [dAs_o (by omega)] at q; cases q)
    have hFF : F' = F := by
      have := hw'.2.1.symm.trans hF
      have h2 := hw'.1
      exact (nI_eq (by omega) (by omega)).mp this
    subst hFF
    obtain ⟨-, -, t, s3, s4⟩ := hsn
    have hrow : ∀ i, i < 288 → σ4 215 i = (fun i => σ 223 (288 * s' + i)) i := fun i hi => by rw [e215]; exact hg i hi
    refine ⟨⟨CM.row h9 hrow (CM.ag c17 (fun o i p1 p2 => o4 o i (by omega) (by omega))), CB.ag c32 (fun i _ p2 => hrow i p2) (fun o i p1 p2 => o4 o i (by omega) (by omega)), t, s3, WR_cong h9 s4 hrow⟩, s', (x + 12) % 13, by omega, hx', ?_, ?_, e30', fun j hj => ?_⟩
    · exact (o4 37 0 (by decide) (by decide)).trans ((f3' 37 0 (by omega) (by omega)).trans a0)
    · exact (o4 37 2 (by decide) (by decide)).trans ((f3' 37 2 (by omega) (by omega)).trans a2)
    · have hj1 := p6 (j + 1) (by omega)
      have ei : (x + 12 - (j + 1)) % 13 = ((x + 12) % 13 + 12 - j) % 13 := by omega
      have er : s' + 1 - 1 - (j + 1) = s' - 1 - j := by omega
      rw [ei, er] at hj1
      have hm : ((x + 12) % 13 + 12 - j) % 13 < 13 := Nat.mod_lt _ (by decide)
      refine SN.row h9 (fun i hi => ?_) (SN.ag hj1 (fun o i q1 q2 => ?_))
      · exact (o4 223 _ (by decide) (by decide)).trans (fo 223 _ (by omega) (by omega))
      · exact (o4 o i (by omega) (by omega)).trans (fo o i (by omega) (by omega))
