/-! THE TEXT is read by both -/
def TX (C : Nat → Nat) (T : Nat) (σ : zS) : Prop := T ≤ 80 ∧ σ 1 1 = nI T ∧ σ 214 9 = nI T ∧ ∀ i, i < 80 → chR (σ 2 i) (C i) ∧ chR (σ 219 i) (C i)
theorem Inv.tx {b : Nat} {σ : zS} (h : Inv b σ) : ∃ C T, TX C T σ := by
  obtain ⟨T, hT, t1, t2, t3⟩ := h.htext
  refine ⟨fun i => if q : i < 80 then Classical.choose (t3 i q) else 999, T, hT, t1, t2, fun i hi => ?_⟩
  simp only [dif_pos hi]
  exact Classical.choose_spec (t3 i hi)
theorem TX.ag {C : Nat → Nat} {T : Nat} {σ σ' : zS} (h : TX C T σ) (h1 : σ' 1 1 = σ 1 1) (h9 : σ' 214 9 = σ 214 9) (h2 : ∀ i, σ' 2 i = σ 2 i) (h219 : ∀ i, σ' 219 i = σ 219 i) : TX C T σ' := by
  obtain ⟨g1, g2, g3, g4⟩ := h
  exact ⟨g1, h1.trans g2, h9.trans g3, fun i hi => by rw [h2, h219]; exact g4 i hi⟩
/-- the reference's share of it -/
def TXr (C : Nat → Nat) (T : Nat) (σ : zS) : Prop := T ≤ 80 ∧ σ 214 9 = nI T ∧ ∀ i, i < 80 → chR (σ 219 i) (C i)
theorem TX.r {C : Nat → Nat} {T : Nat} {σ σ' : zS} (h : TX C T σ) (h9 : σ' 214 9 = σ 214 9) (h219 : ∀ i, σ' 219 i = σ 219 i) : TXr C T σ' :=
  ⟨h.1, h9.trans h.2.2.1, fun i hi => by rw [h219]; exact (h.2.2.2 i hi).2⟩
/-- the signs of the first L -/
def cutC (C : Nat → Nat) (L i : Nat) : Nat := if i < L then C i else 999
theorem cutC_lt {C : Nat → Nat} {L i : Nat} (h : i < L) : cutC C L i = C i := if_pos h
theorem cutC_ge (C : Nat → Nat) (L : Nat) : ∀ i, L ≤ i → cutC C L i = 999 := fun i h => if_neg (by omega)
def pOp (o i : Nat) : Bool := decide (o = 1 ∧ 2 ≤ i ∧ i ≤ 4)
theorem c_open {d T m : Nat} {C : Nat → Nat} {σ : zS} (hx : TX C T σ) (hm : m ≤ 80) {Q : Int32 → zS → Prop} (hq : ∀ σ', Fr pOp σ σ' → TC (cutC C (min T m)) (min T m) 0 σ' → σ' 1 4 = b2i (decide (m < T)) → Q 0 σ') : ZC (d + 2) 60 [.ref 1, .int (nI m)] σ Q := by
  obtain ⟨h80, h1, h2, h3⟩ := hx
  refine k_60_0 ?_
  rw [s_mn, h1]
  have e1 : (zup σ 1 2 0) 1 1 = nI T := h1
  rw [e1]
  have fin : ∀ v : Int32, ∀ w : Int32, v = nI (min T m) → w = b2i (decide (m < T)) → Q 0 (zup (zup (zup σ 1 2 0) 1 3 v) 1 4 w) := by
    intro v w ev ew
    refine hq _ (Fr.tr (Fr.up (by decide)) (Fr.tr (Fr.up (by decide)) (Fr.up (by decide)))) ⟨rfl, ev, by omega, fun i hi => ?_, cutC_ge C _, Nat.zero_le _⟩ ew
    rw [cutC_lt hi]
    exact (h3 i (by omega)).1
  by_cases hq : m < T
  · rw [if_pos (nI_lt hq (by omega)), if_pos (nI_lt hq (by omega))]
    exact fin _ _ (by congr 1; omega) (by rw [decide_eq_true hq]; rfl)
  · rw [if_neg (nI_nlt (by omega) (by omega)), if_neg (nI_nlt (by omega) (by omega))]
    exact fin _ _ (by congr 1; omega) (by rw [decide_eq_false hq]; rfl)
theorem c_isOver {d L a : Nat} {C : Nat → Nat} {σ : zS} (h : TC C L a σ) (Q : Int32 → zS → Prop) : ZC (d + 1) 61 [.ref 1] σ Q = Q (b2i (decide (a = L))) σ := by
  refine s_of (fun Q hq => k_61_0 ?_) Q
  obtain ⟨h1, h2, h3, -, -, h6⟩ := h
  rw [h1, h2]
  by_cases q : a = L
  · rw [decide_eq_true q] at hq
    rw [if_neg (nI_nlt (by omega) (by omega))]
    exact hq
  · rw [decide_eq_false q] at hq
    rw [if_pos (nI_lt (by omega) (by omega))]
    exact hq
theorem c_close {d L a : Nat} {C : Nat → Nat} {mo : Bool} {σ : zS} (h : TC C L a σ) (h4 : σ 1 4 = b2i mo) (g : Bool) (Q : Int32 → zS → Prop) : ZC (d + 1) 62 [.ref 1, .int (b2i g)] σ Q = Q (b2i (g && decide (a = L) && !mo)) (zup σ 1 1 0) := by
  refine s_of (fun Q hq => k_62_0 ?_) Q
  obtain ⟨h1, h2, h3, -, -, h6⟩ := h
  cases g
  · rw [if_pos (by decide)]; exact hq
  · rw [if_neg (by decide), h1, h2]
    by_cases q : a = L
    · rw [if_neg (nI_nlt (by omega) (by omega)), h4]
      rw [decide_eq_true q] at hq
      cases mo
      · rw [if_pos (by decide)]; exact hq
      · rw [if_neg (by decide)]; exact hq
    · rw [if_pos (nI_lt (by omega) (by omega))]
      rw [decide_eq_false q] at hq
      exact hq
theorem c_fault {d a : Nat} {σ : zS} (h : σ 1 2 = nI a) (Q : Int32 → zS → Prop) : ZC (d + 1) 63 [.ref 1] σ Q = Q (-1 - nI a) σ :=
  s_of (fun Q hq => k_63_0 (by rw [h]; exact hq)) Q
/-! the reference's side -/
def pBe (o i : Nat) : Bool := decide (o = 214 ∧ 13 ≤ i ∧ i ≤ 17)
theorem r_here219 {C : Nat → Nat} {T m : Nat} {σ : zS} (hT : T ≤ 80) (hm : m ≤ 80) (h13 : σ 214 13 = nI 220) (h14 : σ 214 14 = nI T) (h15 : σ 214 15 = nI m) (hch : ∀ i, i < T → chR (σ 219 i) (C i)) : HR (cutC C (min T m)) (min T m) σ := by
  intro σ1 hf a ha h16 d Q hq
  have e13 : σ1 214 13 = nI 220 := (hf 214 13 (by decide)).trans h13
  have e14 : σ1 214 14 = nI T := (hf 214 14 (by decide)).trans h14
  have e15 : σ1 214 15 = nI m := (hf 214 15 (by decide)).trans h15
  have out : ¬ (a < min T m) → Q (-1) σ1 := fun q => hq _ (Or.inr ⟨cutC_ge C _ a (by omega), fun c hc => m1_ne c hc⟩)
  refine k_182_0 ?_
  rw [h16, e14, e15]
  by_cases hL : a < T
  · rw [if_pos (nI_lt hL (by omega))]
    by_cases hM : a < m
    · rw [if_pos (nI_lt hM (by omega)), e13, zdec_n 219 (by decide)]
      refine k_182_26_219 ?_
      rw [h16]
      simp (disch := omega) only [zup_eq, zput_app, zput_twice, upd_same, nI_1, za2, zA2, zm2, za3, zA3, zm3, za4, zA4, zm4, za9, zA9, zm9, za10, zA10, zm10, za18, zA18, zm18, za27, zA27, zm27, za36, zA36, zm36, za48, zA48, zm48, za288, zA288, zm288, zcl, zinT, upd_ne, upd_eq, zlt, znlt, zl2, zn2_, zl3, zn3_, zl5, zn5_, zl9, zn9_, zl10, zn10_, zl16, zn16_, zl20, zn20_, zl40, zn40_, zl60, zn60_, zl76, zn76_, zl80, zn80_, zl288, zn288_, zl300, zn300_, zneg, Nat.reduceEqDiff, Nat.reduceAdd, ↓reduceIte]
      rw [show σ1 219 a = σ 219 a from hf 219 a (by simp [pq])]
      refine hq _ ?_
      rw [cutC_lt (by omega)]
      exact hch a hL
    · rw [if_neg (nI_nlt (by omega) (by omega))]
      exact out (by omega)
  · rw [if_neg (nI_nlt (by omega) (by omega))]
    exact out (by omega)
theorem r_begin219 {d T m : Nat} {σ : zS} {Q : Int32 → zS → Prop} (hq : ∀ σ', Fr pBe σ σ' → σ' 214 13 = nI 220 → σ' 214 14 = nI T → σ' 214 15 = nI m → RF 0 σ' → Q 0 σ') : ZC (d + 1) 181 [.ref 214, .ref 219, .int (nI T), .int (nI m)] σ Q := by
  refine k_181_0_i214_219 ?_
  exact hq _ (Fr.tr (Fr.up (by decide)) (Fr.tr (Fr.up (by decide)) (Fr.tr (Fr.up (by decide)) (Fr.tr (Fr.up (by decide)) (Fr.up (by decide)))))) rfl rfl rfl ⟨rfl, rfl⟩
/-- a text that is read from 219 -/
def R219 (C : Nat → Nat) (L : Nat) (σ : zS) : Prop := HR C L σ ∧ σ 214 13 = nI 220 ∧ L ≤ 80 ∧ (∀ i, i < L → chR (σ 219 i) (C i)) ∧ (∀ i, L ≤ i → C i = 999)
theorem ch_dig {x : Int32} {n : Nat} (h : chR x n) (hn : n < 128) : x = nI n := by
  rcases h with ⟨-, h⟩ | ⟨rfl, -⟩
  · exact h
  · omega
theorem r_digit {C : Nat → Nat} {L : Nat} {σ0 : zS} (hR : R219 C L σ0) {σ : zS} (hf : Fr pq σ0 σ) {a : Nat} (hF : RF a σ) (ha : a ≤ L) {lo : Nat} (hlo : lo ≤ 9) {d : Nat} {Q : Int32 → zS → Prop} (h1 : 48 + lo ≤ C a ∧ C a ≤ 57 → Q (nI (C a - 48)) (zup σ 214 16 (nI (a + 1)))) (h0 : ¬ (48 + lo ≤ C a ∧ C a ≤ 57) → Q 0 (zup σ 214 17 (nI a))) : ZC (d + 3) 187 [.ref 214, .int (nI lo)] σ Q := by
  obtain ⟨g1, g2, g3, g4, g5⟩ := hR
  refine k_187_0 ?_
  rw [r_fine, hF.2, if_pos rfl, if_neg (by decide)]
  refine g1 σ hf a ha hF.1 (d + 1) _ (fun x hx => ?_)
  rw [s_in]
  have e : (if x < nI (48 + lo) then (0 : Int32) else if nI 57 < x then 0 else 1) = b2i (decide (48 + lo ≤ C a ∧ C a ≤ 57)) := in_rng hx (by omega) (by decide)
  rw [show (48 : Int32) + nI lo = nI (48 + lo) from nI_add 48 _, show (57 : Int32) = nI 57 from rfl, e]
  by_cases hd : 48 + lo ≤ C a ∧ C a ≤ 57
  · have haL : a < L := by
      rcases Nat.lt_or_ge a L with q | q
      · exact q
      · have := g5 a q; omega
    rw [decide_eq_true hd, if_neg (by decide), hF.1, show nI a + (1 : Int32) = nI (a + 1) from nI_add a 1, (hf 214 13 (by decide)).trans g2, zdec_n 219 (by decide)]
    refine k_187_49_219 ?_
    rw [show (zup σ 214 16 (nI (a + 1))) 214 16 = nI (a + 1) from rfl, show nI (a + 1) - (1 : Int32) = nI a from subL (n := a + 1) (k := 1) (by omega), if_pos (zin_nI (by omega) (by decide)), zcl (by omega), show (zup σ 214 16 (nI (a + 1))) 219 a = σ0 219 a from hf 219 a (by simp [pq]), ch_dig (g4 a haL) (by omega)]
    rw [show nI (C a) - (48 : Int32) = nI (C a - 48) from subL (k := 48) (by omega)]
    exact h1 hd
  · rw [decide_eq_false hd, if_pos (by decide), r_fault hF.2, hF.1]
    exact h0 hd
theorem r_letter {C : Nat → Nat} {L : Nat} {σ0 : zS} (hR : R219 C L σ0) {σ : zS} (hf : Fr pq σ0 σ) {a : Nat} (hF : RF a σ) (ha : a ≤ L)  {d : Nat} {Q : Int32 → zS → Prop} (h1 : 97 + 0 ≤ C a ∧ C a ≤ 105 → Q (nI (C a - 97)) (zup σ 214 16 (nI (a + 1)))) (h0 : ¬ (97 + 0 ≤ C a ∧ C a ≤ 105) → Q 0 (zup σ 214 17 (nI a))) : ZC (d + 3) 188 [.ref 214] σ Q := by
  obtain ⟨g1, g2, g3, g4, g5⟩ := hR
  refine k_188_0 ?_
  rw [r_fine, hF.2, if_pos rfl, if_neg (by decide)]
  refine g1 σ hf a ha hF.1 (d + 1) _ (fun x hx => ?_)
  rw [s_in]
  have e : (if x < nI (97 + 0) then (0 : Int32) else if nI 105 < x then 0 else 1) = b2i (decide (97 + 0 ≤ C a ∧ C a ≤ 105)) := in_rng hx (by omega) (by decide)
  rw [show (97 : Int32) = nI (97 + 0) from rfl, show (105 : Int32) = nI 105 from rfl, e]
  by_cases hd : 97 + 0 ≤ C a ∧ C a ≤ 105
  · have haL : a < L := by
      rcases Nat.lt_or_ge a L with q | q
      · exact q
      · have := g5 a q; omega
    rw [decide_eq_true hd, if_neg (by decide), hF.1, show nI a + (1 : Int32) = nI (a + 1) from nI_add a 1, (hf 214 13 (by decide)).trans g2, zdec_n 219 (by decide)]
    refine k_188_47_219 ?_
    rw [show (zup σ 214 16 (nI (a + 1))) 214 16 = nI (a + 1) from rfl, show nI (a + 1) - (1 : Int32) = nI a from subL (n := a + 1) (k := 1) (by omega), if_pos (zin_nI (by omega) (by decide)), zcl (by omega), show (zup σ 214 16 (nI (a + 1))) 219 a = σ0 219 a from hf 219 a (by simp [pq]), ch_dig (g4 a haL) (by omega)]
    rw [show nI (C a) - (97 : Int32) = nI (C a - 97) from subL (k := 97) (by omega)]
    exact h1 hd
  · rw [decide_eq_false hd, if_pos (by decide), r_fault hF.2, hF.1]
    exact h0 hd
