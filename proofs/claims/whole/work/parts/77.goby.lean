/-! a minute goes by, on the class's side, with its lines -/
def pGo (o i : Nat) : Bool := pw 14 o i || pBk o i
theorem CB.gy {q : Nat → Int32} {m : Int32} {f : Nat} {σ : zS} (hf : f < 9) (h : CB 32 (bkw m q f) σ) : CB 32 (gy false m q f) σ := by
  refine CB.ag h (fun i h1 h2 => ?_) (fun _ _ _ _ => rfl)
  by_cases h47 : i = 47
  · subst h47
    rw [gy_47 hf]
    unfold bkw
    rw [upd_eq]
  · exact gy_bk hf (by omega)
theorem ms_bk {c : MC} {fr : Bool} {r : Nat → Int32} {i : Nat} (h9 : c.1 ≤ 9) (hi : 47 ≤ i) : ms c fr r i = ry fr r c.1 i := by
  unfold ms
  rw [upd_ne (by omega)]
  have e : r3 c fr r i = ry fr r c.1 i := rc_hi (Or.inr (by omega)) c.1 h9
  split
  · unfold rt
    rw [if_neg (by omega)]
    exact e
  · exact e
theorem c_goBy {d t y : Nat} {σ : zS} {c : MC} {r : Nat → Int32} (hc : CW 14 c σ) (hk : HK (d + 2) c.2.2.2.1 σ) (hv : RVC c.2.2.2.1) (hcm : CM 17 c.1 r σ) (hTR : TR c.1 r) (ht : r 46 = nI t) (htb : t < 1073741824) (hm : ∀ f, f < c.1 → r (36 + f) = 0 ∨ r (36 + f) = 1) (hcb : CB 32 r σ) (hy : r 47 = nI y) (hyb : y + 10 < 1073741824) {Q : Int32 → zS → Prop}
    (hq : ∀ σ', Fr pGo σ σ' → CM 17 c.1 (ms c false r) σ' → CB 32 (ms c false r) σ' → σ' 14 4 = ysS c false r → σ' 14 5 = msS c false r → σ' 14 6 = cbS c false r → Q (bc (ysS c false r)) σ') : ZC (d + 6) 148 [.ref 0] σ Q := by
  have h9 : c.1 ≤ 9 := hc.2.1
  refine k_148_0 ?_
  refine c_pass14 (fr := false) hc hk hv hcm hTR ht htb (fun σ1 f1 g1 y1 m1 b1 l1 => ?_)
  rw [show σ 17 6 = r 46 from hcm.2.2.2.2]
  have hF1 : σ1 14 3 = nI c.1 := (f1 14 3 (by decide)).trans hc.1
  have hcb1 : CB 32 r σ1 := CB.ag hcb (fun _ _ _ => rfl) (fun o i p1 p2 => f1 o i (by
    unfold pw
    exact decide_eq_false (by omega)))
  refine z_for (F := c.1) (P := fun k => ∀ σ2, Fr pBk σ1 σ2 → CB 32 (ry false r k) σ2 → Z (d + 5) 148 Q 21 [.ref 0, .int (r 46), .int (nI k)] [] σ2) (fun k hk ih σ2 f2 g2 => ?_) (fun σ2 f2 g2 => ?_) σ1 Fr.rf hcb1
  · refine k_148_21 ?_
    have o2 : ∀ o i, ¬ (32 ≤ o ∧ o ≤ 36) → σ2 o i = σ1 o i := fun o i q => f2 o i (decide_eq_false q)
    have hys : zb (ysS c false r) k = yw false r k := by
      unfold ysS
      rw [zb_bs (by omega) (by omega), decide_eq_true hk, Bool.true_and]
    have hms : zb (msS c false r) k = mw false r k := by
      unfold msS
      rw [zb_bs (by omega) (by omega), decide_eq_true hk, Bool.true_and]
    rw [(o2 14 3 (by omega)).trans hF1, if_pos (nI_lt hk (by omega)), (o2 14 4 (by omega)).trans y1, s_hasN _ (by omega), hys, show nI k + (1 : Int32) = nI (k + 1) from nI_add k 1]
    have e1 : ry false r (k + 1) = if yw false r k then gy false (r 46) (ry false r k) k else ry false r k := rfl
    cases hyw : yw false r k
    · rw [hyw] at e1
      rw [if_pos (show b2i false = 0 from rfl)]
      exact ih σ2 f2 (by rw [e1]; exact g2)
    · rw [hyw] at e1
      rw [if_neg (show ¬ b2i true = 0 by decide), if_pos (zin_nI (by omega) (by decide)), zcl (by omega), (o2 14 5 (by omega)).trans m1, s_hasN _ (by omega), hms, (o2 22 k (by omega)).trans (l1 k hk hyw)]
      obtain ⟨j, hj, ej⟩ := ry_47 (fr := false) hy k (by omega)
      obtain ⟨-, -, -, e27, e36⟩ := ry_old (fr := false) (r := r) k (by omega) k (Nat.le_refl k) (by omega)
      have emw : mw false r k = decide (r (36 + k) = 1) := by
        unfold mw
        rw [hyw, Bool.true_and]
      have wr : ∀ v : Int32, v = ry false r k (36 + k) → ZC (d + 5) 15 [.ref 32, .int (r 46), .int (nI k), .int (r (27 + k)), .int v] σ2 (fun _ s5 => Z (d + 5) 148 Q 21 [.ref 0, .int (r 46), .int (nI (k + 1))] [] s5) := by
        intro v hv2
        rw [hv2, ← e27]
        refine c_write (m := r 46) g2 ej (by omega) (fun σ3 f3 g3 => ?_)
        refine ih σ3 (Fr.tr f2 f3) ?_
        rw [e1]
        exact CB.gy (by omega) g3
      rw [emw]
      rcases hm k hk with h0 | h1
      · rw [decide_eq_false (show ¬ r (36 + k) = 1 by rw [h0]; decide), if_pos (show b2i false = 0 from rfl)]
        exact wr 0 (by rw [e36, h0])
      · rw [decide_eq_true h1, if_neg (show ¬ b2i true = 0 by decide)]
        exact wr 1 (by rw [e36, h1])
  · refine k_148_21 ?_
    have o2 : ∀ o i, ¬ (32 ≤ o ∧ o ≤ 36) → σ2 o i = σ1 o i := fun o i q => f2 o i (decide_eq_false q)
    rw [(o2 14 3 (by omega)).trans hF1, if_neg (nI_nlt (Nat.le_refl _) (by omega)), (o2 14 4 (by omega)).trans y1, s_bitCount]
    refine hq σ2 (Fr.tr (Fr.mono f1 (fun o i q => ?_)) (Fr.mono f2 (fun o i q => ?_))) (CM.ag g1 (fun o i p1 p2 => o2 o i (by omega))) (CB.ag g2 (fun i p1 p2 => ms_bk h9 p1) (fun _ _ _ _ => rfl)) ((o2 14 4 (by omega)).trans y1) ((o2 14 5 (by omega)).trans m1) ((o2 14 6 (by omega)).trans b1)
    · unfold pGo at q
      rw [Bool.or_eq_false_iff] at q
      exact q.1
    · unfold pGo at q
      rw [Bool.or_eq_false_iff] at q
      exact q.2
