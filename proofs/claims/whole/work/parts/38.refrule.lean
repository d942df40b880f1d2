/-! the reference reads the rule, and says what it comes to */ -/
def pq (o i : Nat) : Bool := decide (o = 214 ∧ (i = 16 ∨ i = 17))
def HR (C : Nat → Nat) (L : Nat) (σ : zS) : Prop := ∀ σ1, Fr pq σ σ1 → ∀ a, a ≤ L → σ1 214 16 = nI a → ∀ (d : Nat) (Q : Int32 → zS → Prop), (∀ x, chR x (C a) → Q x σ1) → ZC (d + 1) 182 [.ref 214] σ1 Q
def RV (v : Nat → Int32) (σ : zS) : Prop := ∀ σ1, Fr pq σ σ1 → ∀ (d : Nat) (x1 : Int32) (c : Nat), vof c ≠ 99 → ∀ (w3 w4 : Value) (Q : Int32 → zS → Prop), Q (v (vof c)) σ1 → Z (d + 1) 196 Q 212 [.ref 214, .int x1, .int (nI c), w3, w4] [zdec (σ1 214 21)] σ1
/-- it reads at a, and nothing was wrong -/
def RF (a : Nat) (σ : zS) : Prop := σ 214 16 = nI a ∧ σ 214 17 = -1
/-- the sign at p was wrong -/
def RB (L p : Nat) (σ : zS) : Prop := σ 214 17 = nI p ∧ p ≤ 100 ∧ ∃ a, a ≤ L ∧ σ 214 16 = nI a
def CR (C : Nat → Nat) (L D mi dp : Nat) (v : Nat → Int32) (σ0 : zS) (f : Nat → PR) : Prop := ∀ a (σ : zS), Fr pq σ0 σ → RF a σ → a ≤ L → ∀ Q : Int32 → zS → Prop, ((f a).1 = true → ∀ w σ', (∀ st, ex v (f a).2.2 st = w :: st) → Fr pq σ σ' → RF (f a).2.1 σ' → Q w σ') → ((f a).1 = false → ∀ w σ', Fr pq σ σ' → RB L (f a).2.1 σ' → Q w σ') → ZC D mi [.ref 214, .int (nI dp)] σ Q
theorem ne_m1 : ∀ p, p ≤ 100 → (nI p = -1) = False := by
  intro p hp
  have : ∀ p, p ≤ 100 → ¬ (nI p = -1) := by decide +kernel
  exact eq_false (this p hp)
theorem r_fine {d : Nat} {σ : zS} (Q : Int32 → zS → Prop) : ZC (d + 1) 183 [.ref 214] σ Q = Q (if σ 214 17 = -1 then 1 else 0) σ :=
  s_of (fun Q h => k_183_0 (by split <;> simp_all)) Q
theorem r_fault {d : Nat} {σ : zS} (h : σ 214 17 = -1) (x : Int32) (Q : Int32 → zS → Prop) : ZC (d + 2) 184 [.ref 214, .int x] σ Q = Q 0 (zup σ 214 17 x) :=
  s_of (fun Q hq => k_184_0 (by rw [r_fine, h, if_pos rfl, if_neg (by decide)]; exact hq)) Q
theorem at_pq {σ : zS} {x : Int32} : Fr pq σ (zup σ 214 16 x) := Fr.up (by decide)
theorem wr_pq {σ : zS} {x : Int32} : Fr pq σ (zup σ 214 17 x) := Fr.up (by decide)
theorem RF.to {a b : Nat} {σ : zS} (h : RF a σ) : RF b (zup σ 214 16 (nI b)) := ⟨by simp (disch := omega) only [zup_eq, zput_app, zput_twice, upd_same, nI_1, za2, zA2, zm2, za3, zA3, zm3, za4, zA4, zm4, za9, zA9, zm9, za10, zA10, zm10, za18, zA18, zm18, za27, zA27, zm27, za36, zA36, zm36, za48, zA48, zm48, za288, zA288, zm288, zcl, zinT, upd_ne, upd_eq, zlt, znlt, zl2, zn2_, zl3, zn3_, zl5, zn5_, zl9, zn9_, zl10, zn10_, zl16, zn16_, zl20, zn20_, zl40, zn40_, zl60, zn60_, zl76, zn76_, zl80, zn80_, zl288, zn288_, zl300, zn300_, zneg, Nat.reduceEqDiff, Nat.reduceAdd, ↓reduceIte], by simp (disch := omega) only [zup_eq, zput_app, zput_twice, upd_same, nI_1, za2, zA2, zm2, za3, zA3, zm3, za4, zA4, zm4, za9, zA9, zm9, za10, zA10, zm10, za18, zA18, zm18, za27, zA27, zm27, za36, zA36, zm36, za48, zA48, zm48, za288, zA288, zm288, zcl, zinT, upd_ne, upd_eq, zlt, znlt, zl2, zn2_, zl3, zn3_, zl5, zn5_, zl9, zn9_, zl10, zn10_, zl16, zn16_, zl20, zn20_, zl40, zn40_, zl60, zn60_, zl76, zn76_, zl80, zn80_, zl288, zn288_, zl300, zn300_, zneg, Nat.reduceEqDiff, Nat.reduceAdd, ↓reduceIte]; exact h.2⟩
theorem RF.bad {L a p : Nat} {σ : zS} (h : RF a σ) (ha : a ≤ L) (hp : p ≤ 100) : RB L p (zup σ 214 17 (nI p)) := ⟨by simp (disch := omega) only [zup_eq, zput_app, zput_twice, upd_same, nI_1, za2, zA2, zm2, za3, zA3, zm3, za4, zA4, zm4, za9, zA9, zm9, za10, zA10, zm10, za18, zA18, zm18, za27, zA27, zm27, za36, zA36, zm36, za48, zA48, zm48, za288, zA288, zm288, zcl, zinT, upd_ne, upd_eq, zlt, znlt, zl2, zn2_, zl3, zn3_, zl5, zn5_, zl9, zn9_, zl10, zn10_, zl16, zn16_, zl20, zn20_, zl40, zn40_, zl60, zn60_, zl76, zn76_, zl80, zn80_, zl288, zn288_, zl300, zn300_, zneg, Nat.reduceEqDiff, Nat.reduceAdd, ↓reduceIte], hp, a, ha, by simp (disch := omega) only [zup_eq, zput_app, zput_twice, upd_same, nI_1, za2, zA2, zm2, za3, zA3, zm3, za4, zA4, zm4, za9, zA9, zm9, za10, zA10, zm10, za18, zA18, zm18, za27, zA27, zm27, za36, zA36, zm36, za48, zA48, zm48, za288, zA288, zm288, zcl, zinT, upd_ne, upd_eq, zlt, znlt, zl2, zn2_, zl3, zn3_, zl5, zn5_, zl9, zn9_, zl10, zn10_, zl16, zn16_, zl20, zn20_, zl40, zn40_, zl60, zn60_, zl76, zn76_, zl80, zn80_, zl288, zn288_, zl300, zn300_, zneg, Nat.reduceEqDiff, Nat.reduceAdd, ↓reduceIte]; exact h.1⟩
theorem in_rng {x : Int32} {n lo hi : Nat} (h : chR x n) (h1 : lo < 128) (h2 : hi < 128) : (if x < nI lo then (0 : Int32) else if nI hi < x then 0 else 1) = b2i (decide (lo ≤ n ∧ n ≤ hi)) := by
  rcases h with ⟨hn, rfl⟩ | ⟨rfl, hx⟩
  · by_cases q1 : n < lo
    · rw [if_pos (nI_lt q1 (by omega))]
      have : ¬ (lo ≤ n ∧ n ≤ hi) := by omega
      simp [this, b2i]
    · rw [if_neg (nI_nlt (by omega) (by omega))]
      by_cases q2 : hi < n
      · rw [if_pos (nI_lt q2 (by omega))]
        have : ¬ (lo ≤ n ∧ n ≤ hi) := by omega
        simp [this, b2i]
      · rw [if_neg (nI_nlt (by omega) (by omega))]
        have : lo ≤ n ∧ n ≤ hi := by omega
        simp [this, b2i]
  · have hf : decide (lo ≤ 999 ∧ 999 ≤ hi) = false := decide_eq_false (by omega)
    rw [hf]
    by_cases q1 : x < nI lo
    · rw [if_pos q1]; rfl
    · rw [if_neg q1]
      by_cases q2 : nI hi < x
      · rw [if_pos q2]; rfl
      · exfalso
        have e1 : ∀ a b : Int32, a < b ↔ a.toInt < b.toInt := fun a b => Int32.lt_iff_toInt_lt
        have e3 : (nI lo).toInt = lo := nI_toInt (by omega)
        have e4 : (nI hi).toInt = hi := nI_toInt (by omega)
        rw [e1, e3] at q1
        rw [e1, e4] at q2
        obtain ⟨j, hj, e6⟩ := nI_of (x := x) (by rw [e1, show (0 : Int32).toInt = 0 from by decide]; omega)
        rw [e6, nI_toInt hj] at q1 q2
        exact hx j (by omega) e6
section RRULE
variable {C : Nat → Nat} {L : Nat} {σ0 : zS}
theorem r_passes (hR : HR C L σ0) {σ : zS} (hf : Fr pq σ0 σ) {a : Nat} (hF : RF a σ) (ha : a ≤ L) {c : Nat} (hc : c < 128) {d : Nat} {Q : Int32 → zS → Prop} (h1 : C a = c → Q 1 (zup σ 214 16 (nI (a + 1)))) (h0 : C a ≠ c → Q 0 σ) : ZC (d + 2) 185 [.ref 214, .int (nI c)] σ Q := by
  refine k_185_0 ?_
  rw [r_fine, hF.2, if_pos rfl, if_neg (by decide)]
  refine hR σ hf a ha hF.1 d _ (fun x hx => ?_)
  simp only [chR_eq hx hc, hF.1, nI_1]
  split
  · rename_i q; exact h1 q
  · rename_i q; exact h0 q
theorem r_passesB {σ : zS} {p : Nat} (hB : RB L p σ) {c : Int32} {d : Nat} (Q : Int32 → zS → Prop) : ZC (d + 2) 185 [.ref 214, .int c] σ Q = Q 0 σ :=
  s_of (fun Q h => k_185_0 (by simp only [r_fine, hB.1, ne_m1 p hB.2.1, ↓reduceIte]; exact h)) Q
theorem r_need (hR : HR C L σ0) {σ : zS} (hf : Fr pq σ0 σ) {a : Nat} (hF : RF a σ) (ha : a ≤ L) {c : Nat} (hc : c < 128) {d : Nat} {Q : Int32 → zS → Prop} (h1 : C a = c → Q 0 (zup σ 214 16 (nI (a + 1)))) (h0 : C a ≠ c → Q 0 (zup σ 214 17 (nI a))) : ZC (d + 3) 186 [.ref 214, .int (nI c)] σ Q := by
  refine k_186_0 ?_
  refine r_passes hR hf hF ha hc (fun q => ?_) (fun q => ?_)
  · rw [if_neg (by decide)]; exact h1 q
  · rw [if_pos rfl, r_fault hF.2, hF.1]; exact h0 q
theorem r_faultB {σ : zS} {p : Nat} (hB : RB L p σ) {x : Int32} {d : Nat} (Q : Int32 → zS → Prop) : ZC (d + 2) 184 [.ref 214, .int x] σ Q = Q 0 σ :=
  s_of (fun Q h => k_184_0 (by simp only [r_fine, hB.1, ne_m1 p hB.2.1, ↓reduceIte]; exact h)) Q
theorem r_needB {σ : zS} {p : Nat} (hB : RB L p σ) {c : Int32} {d : Nat} (Q : Int32 → zS → Prop) : ZC (d + 3) 186 [.ref 214, .int c] σ Q = Q 0 σ :=
  s_of (fun Q h => k_186_0 (by rw [r_passesB hB, if_pos rfl, r_faultB hB]; exact h)) Q
theorem Fr.zup16 {σ σ' : zS} {x : Int32} (h : Fr pq σ σ') : Fr pq σ (zup σ' 214 16 x) := Fr.tr h at_pq
theorem r_num (hR : HR C L σ0) (hC : ∀ i, L ≤ i → C i = 999) : ∀ m, m ≤ 3 → ∀ a v (σ : zS), Fr pq σ0 σ → RF a σ → a ≤ L → ∀ (d : Nat) (x1 x2 : Int32) (Q : Int32 → zS → Prop), (∀ σ', Fr pq σ σ' → RF (pNum C m a v).1 σ' → Q (nI (pNum C m a v).2) σ') → Z (d + 2) 196 Q 83 [.ref 214, .int x1, .int x2, .int (nI v), .int (nI (3 - m))] [] σ := by
  intro m
  induction m with
  | zero =>
    intro _ a v σ hf hF ha d x1 x2 Q hq
    refine k_196_83 ?_
    rw [if_neg (by decide)]
    exact hq σ Fr.rf hF
  | succ m ih =>
    intro hm a v σ hf hF ha d x1 x2 Q hq
    refine k_196_83 ?_
    have e3 : (nI (3 - (m + 1)) < 3) = True := zlt (a := 3 - (m + 1)) (b := 3) (by omega) (by decide)
    have e4 : nI (3 - (m + 1)) + 1 = nI (3 - m) := by rw [nI_1]; congr 1; omega
    simp only [e3, ↓reduceIte, e4]
    refine hR σ hf a ha hF.1 (d + 1) _ (fun x hx => ?_)
    rw [s_in, show (if x < 48 then (0 : Int32) else if 57 < x then 0 else 1) = b2i (decide (48 ≤ C a ∧ C a ≤ 57)) from in_rng hx (lo := 48) (hi := 57) (by decide) (by decide)]
    by_cases hd : 48 ≤ C a ∧ C a ≤ 57
    · rw [decide_eq_true hd, if_neg (by decide)]
      refine hR σ hf a ha hF.1 (d + 1) _ (fun y hy => ?_)
      have hyc : y = nI (C a) := by
        rcases hy with ⟨q1, q2⟩ | ⟨q1, q2⟩
        · exact q2
        · omega
      have haL := inL (L := L) hC (a := a) (by omega)
      rw [hyc, hF.1, nI_1, show (10 : Int32) * nI v = nI (10 * v) from zm10 v, nI_add, show nI (10 * v + C a) - (48 : Int32) = nI (10 * v + C a - 48) from subL (k := 48) (by omega)]
      have e5 : pNum C (m + 1) a v = pNum C m (a + 1) (10 * v + C a - 48) := by
        conv => lhs; unfold pNum
        rw [if_pos hd, show 10 * v + (C a - 48) = 10 * v + C a - 48 by omega]
      rw [e5] at hq
      exact ih (by omega) (a + 1) _ _ (Fr.tr hf at_pq) (RF.to hF) (by omega) d x1 x2 Q (fun σ' h1 h2 => hq σ' (Fr.tr at_pq h1) h2)
    · rw [decide_eq_false hd, if_pos (by decide)]
      have e6 : pNum C (m + 1) a v = (a, v) := by unfold pNum; rw [if_neg hd]
      rw [e6] at hq
      exact hq σ Fr.rf hF
end RRULE
