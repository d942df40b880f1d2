/-! whether what was seen comes -/
def SQ (S : Nat) (fc af : Nat → Nat) (σ : zS) : Prop := S ≤ 10 ∧ σ 187 0 = nI S ∧ ∀ i, i < S → fc i < 9 ∧ af i ≤ 60 ∧ σ 188 i = nI (fc i) ∧ σ 189 i = nI (af i)
def SR (S : Nat) (fc af : Nat → Nat) (σ : zS) : Prop := S ≤ 10 ∧ σ 214 46 = nI S ∧ ∀ i, i < S → fc i < 9 ∧ af i ≤ 60 ∧ σ 233 (2 * i) = nI (fc i) ∧ σ 233 (2 * i + 1) = nI (af i)
theorem SQ.ag {S : Nat} {fc af : Nat → Nat} {σ σ' : zS} (h : SQ S fc af σ) (hf : ∀ o i, 187 ≤ o → o ≤ 189 → σ' o i = σ o i) : SQ S fc af σ' :=
  ⟨h.1, (hf 187 0 (by decide) (by decide)).trans h.2.1, fun i hi => by rw [hf 188 i (by decide) (by decide), hf 189 i (by decide) (by decide)]; exact h.2.2 i hi⟩
theorem SR.ag {S : Nat} {fc af : Nat → Nat} {σ σ' : zS} (h : SR S fc af σ) (h1 : σ' 214 46 = σ 214 46) (hf : ∀ i, σ' 233 i = σ 233 i) : SR S fc af σ' :=
  ⟨h.1, h1.trans h.2.1, fun i hi => by rw [hf, hf]; exact h.2.2 i hi⟩
theorem Inv.hsights {b : Nat} {σ : zS} (h : Inv b σ) : ∃ S fc af, SQ S fc af σ ∧ SR S fc af σ := by
  obtain ⟨F, l, W, -, -, -, -, -, -, -, -, ⟨k, h1, h2, h3, h4⟩, -⟩ := h
  refine ⟨k, fun i => (σ 188 i).toNatClampNeg, fun i => (σ 189 i).toNatClampNeg, ⟨h1, h2, fun i hi => ?_⟩, ⟨h1, h3, fun i hi => ?_⟩⟩
  · obtain ⟨x, y, q1, q2, q3, q4, q5, q6⟩ := h4 i hi
    dsimp only
    rw [q3, q4, nI_clamp (by omega), nI_clamp (by omega)]
    exact ⟨q1, q2, rfl, rfl⟩
  · obtain ⟨x, y, q1, q2, q3, q4, q5, q6⟩ := h4 i hi
    dsimp only
    rw [q3, q4, nI_clamp (by omega), nI_clamp (by omega)]
    exact ⟨q1, q2, q5, q6⟩
def coI (c : MC) (r : Nat → Int32) (fc af : Nat → Nat) (i : Nat) : Bool := zb (ysS c false (mR c r (af i))) (fc i)
def alB (p : Nat → Bool) : Nat → Bool
  | 0 => true
  | n + 1 => alB p n && p n
theorem alB_1 (p : Nat → Bool) (n : Nat) : alB p (n + 1) = (alB p n && p n) := rfl
theorem alB_t {p : Nat → Bool} : ∀ n, (∀ i, i < n → p i = true) → alB p n = true := by
  intro n
  induction n with
  | zero => intro _; rfl
  | succ n ih => intro h; rw [alB_1, ih (fun i hi => h i (by omega)), h n (by omega)]; rfl
theorem alB_f {p : Nat → Bool} {j : Nat} (hp : p j = false) : ∀ n, j < n → alB p n = false := by
  intro n
  induction n with
  | zero => intro h; omega
  | succ n ih =>
    intro h
    rw [alB_1]
    by_cases q : j = n
    · subst q; rw [hp, Bool.and_false]
    · rw [ih (by omega)]; rfl
theorem alB_c {p p' : Nat → Bool} : ∀ n, (∀ i, i < n → p i = p' i) → alB p n = alB p' n := by
  intro n
  induction n with
  | zero => intro _; rfl
  | succ n ih => intro h; rw [alB_1, alB_1, ih (fun i hi => h i (by omega)), h n (by omega)]
def coB (c : MC) (S : Nat) (fc af : Nat → Nat) (r : Nat → Int32) : Bool := alB (coI c r fc af) S
theorem mR_cong {c : MC} (h9 : c.1 ≤ 9) {r r' : Nat → Int32} (h : REq r r') : ∀ k, REq (mR c r k) (mR c r' k) := by
  intro k
  induction k with
  | zero => exact h
  | succ k ih => exact ms_cong h9 ih
theorem coB_cong {c : MC} (h9 : c.1 ≤ 9) {S : Nat} {fc af : Nat → Nat} {r r' : Nat → Int32} (h : REq r r') : coB c S fc af r = coB c S fc af r' :=
  alB_c S (fun i _ => by
    unfold coI
    rw [ysS_cong h9 (mR_cong h9 h (af i))])
def mI (M : Nat) : Int32 := if M = 0 then -1 else nI (M - 1)
def mxA (af : Nat → Nat) : Nat → Nat
  | 0 => 0
  | k + 1 => if mxA af k < af k + 1 then af k + 1 else mxA af k
theorem mxA_1 (af : Nat → Nat) (k : Nat) : mxA af (k + 1) = if mxA af k < af k + 1 then af k + 1 else mxA af k := rfl
theorem mxA_le {af : Nat → Nat} : ∀ k, (∀ i, i < k → af i < mxA af k) ∧ ((∀ i, i < k → af i ≤ 60) → mxA af k ≤ 61) := by
  intro k
  induction k with
  | zero => exact ⟨fun i hi => absurd hi (Nat.not_lt_zero i), fun _ => Nat.zero_le _⟩
  | succ k ih =>
    obtain ⟨h1, h2⟩ := ih
    rw [mxA_1]
    refine ⟨fun i hi => ?_, fun h => ?_⟩
    · by_cases q : i = k
      · subst q; split <;> omega
      · have := h1 i (by omega); split <;> omega
    · have := h2 (fun i hi => h i (by omega))
      have := h k (by omega)
      split <;> omega
theorem mI_s (a : Nat) : mI (a + 1) = nI a := by
  unfold mI
  rw [if_neg (Nat.succ_ne_zero a), Nat.add_sub_cancel]
theorem mI_mx {M a : Nat} (hM : M ≤ 1000) (ha : a ≤ 1000) : (if mI M < nI a then nI a else mI M) = mI (if M < a + 1 then a + 1 else M) := by
  by_cases h0 : M = 0
  · subst h0
    rw [if_pos (show 0 < a + 1 by omega), mI_s, if_pos (show mI 0 < nI a from by
      unfold mI
      rw [if_pos rfl, Int32.lt_iff_toInt_lt, nI_toInt (by omega)]
      have e2 : (-1 : Int32).toInt = -1 := by decide
      omega)]
  · obtain ⟨m, rfl⟩ : ∃ m, M = m + 1 := ⟨M - 1, by omega⟩
    rw [mI_s]
    by_cases q : m < a
    · rw [if_pos (nI_lt q (by omega)), if_pos (by omega), mI_s]
    · rw [if_neg (nI_nlt (by omega) (by omega)), if_neg (by omega), mI_s]
theorem mI_lt {M m : Nat} (hM : M ≤ 1000) (hm : m ≤ 1000) : mI M < nI m ↔ M ≤ m := by
  unfold mI
  by_cases h0 : M = 0
  · subst h0
    rw [if_pos rfl, Int32.lt_iff_toInt_lt, nI_toInt (by omega)]
    have e2 : (-1 : Int32).toInt = -1 := by decide
    omega
  · rw [if_neg h0, Int32.lt_iff_toInt_lt, nI_toInt (by omega), nI_toInt (by omega)]
    omega
theorem c_comeOn {d S : Nat} {fc af : Nat → Nat} {σ : zS} {c : MC} {l : List Int32} {t : Nat} {r : Nat → Int32} (h : PC c l t r σ) (hs : SQ S fc af σ) (ht : t + 300 < 1073741824) {Q : Int32 → zS → Prop}
    (hq : ∀ σ', Fr (pw 23) σ σ' → Q (b2i (coB c S fc af r)) σ') : ZC (d + 6) 57 [.ref 187, .ref 23] σ Q := by
  obtain ⟨s1, s2, s3⟩ := id hs
  refine k_57_0 ?_
  have hmS := (mxA_le (af := af) S).2 (fun i hi => (s3 i hi).2.1)
  -- the minutes, one behind the other
  have rounds : ∀ m k σ1 w4, k + m = mxA af S → Fr (pw 23) σ σ1 → PC c l (t + k) (mR c r k) σ1 → (∀ i, i < S → af i < k → coI c r fc af i = true) → Z (d + 5) 57 Q 31 [.ref 187, .ref 23, .int (mI (mxA af S)), .int (nI k), w4] [] σ1 := by
    intro m
    induction m with
    | zero =>
      intro k σ1 w4 hk f1 p1 g1
      refine k_57_31 ?_
      rw [if_pos ((mI_lt (by omega) (by omega)).mpr (by omega))]
      have e : coB c S fc af r = true := alB_t S (fun i hi => g1 i hi (by have := (mxA_le (af := af) S).1 i hi; omega))
      have := hq σ1 f1
      rw [e] at this
      exact this
    | succ m ih =>
      intro k σ1 w4 hk f1 p1 g1
      refine k_57_31 ?_
      rw [if_neg (fun q => by have := (mI_lt (by omega) (by omega)).mp q; omega), show (Value.int 0) = .int (b2i false) from rfl]
      refine c_passT p1 (by omega) (fun σ2 f2 p2 y2 m2 l2 => ?_)
      have f12 := Fr.tr f1 f2
      have hs2 : SQ S fc af σ2 := hs.ag (fun o i q1 q2 => f12 o i (by unfold pw; exact decide_eq_false (by omega)))
      obtain ⟨-, t2, t3⟩ := hs2
      refine z_for (F := S) (P := fun j => (∀ i, i < j → af i = k → coI c r fc af i = true) → Z (d + 5) 57 Q 44 [.ref 187, .ref 23, .int (mI (mxA af S)), .int (nI k), .int (nI j)] [] σ2) (fun j hj ih2 => ?_) ?_ (fun i hi => absurd hi (Nat.not_lt_zero i))
      · intro gj
        refine k_57_44 ?_
        obtain ⟨a1, a2, a3, a4⟩ := t3 j hj
        have zj : zin (nI j) 10 = true := zin_nI (by omega) (by decide)
        simp only [zj, ↓reduceIte]
        rw [t2, if_pos (nI_lt hj (by omega)), zcl (by omega), a4, a3, show nI j + (1 : Int32) = nI (j + 1) from nI_add j 1]
        by_cases hjk : af j = k
        · rw [if_pos (by rw [hjk]), y2, s_hasN _ (by omega)]
          cases hz : zb (ysS c false (mR c r k)) (fc j)
          · rw [if_pos (show b2i false = 0 from rfl)]
            have e : coB c S fc af r = false := alB_f (j := j) (by
              unfold coI
              rw [hjk]; exact hz) S hj
            have := hq σ2 f12
            rw [e] at this
            exact this
          · rw [if_neg (show ¬ b2i true = 0 by decide)]
            refine ih2 (fun i hi hik => ?_)
            by_cases q : i = j
            · rw [q]; unfold coI; rw [hjk]; exact hz
            · exact gj i (by omega) hik
        · rw [if_neg (fun q => hjk ((nI_eq (by omega) (by omega)).mp q))]
          refine ih2 (fun i hi hik => ?_)
          by_cases q : i = j
          · rw [q] at hik; exact absurd hik hjk
          · exact gj i (by omega) hik
      · intro gj
        refine k_57_44 ?_
        rw [t2, if_neg (nI_nlt (Nat.le_refl _) (by omega)), show nI k + (1 : Int32) = nI (k + 1) from nI_add k 1]
        refine ih (k + 1) σ2 _ (by omega) f12 p2 (fun i hi hik => ?_)
        by_cases q : af i = k
        · exact gj i hi q
        · exact g1 i hi (by omega)
  refine z_for (F := S) (P := fun k => ∀ w4, Z (d + 5) 57 Q 4 [.ref 187, .ref 23, .int (mI (mxA af k)), .int (nI k), w4] [] σ) (fun k hk ih => ?_) ?_ _
  · intro w4
    refine k_57_4 ?_
    obtain ⟨a1, a2, a3, a4⟩ := s3 k hk
    have hmk := (mxA_le (af := af) k).2 (fun i hi => (s3 i (by omega)).2.1)
    rw [s2, if_pos (nI_lt hk (by omega)), if_pos (zin_nI (by omega) (by decide)), zcl (by omega), a4, s_mx, mI_mx (by omega) (by omega), ← mxA_1, show nI k + (1 : Int32) = nI (k + 1) from nI_add k 1]
    exact ih _
  · intro w4
    refine k_57_4 ?_
    rw [s2, if_neg (nI_nlt (Nat.le_refl _) (by omega))]
    exact rounds (mxA af S) 0 σ _ (by omega) Fr.rf h (fun i hi q => absurd q (Nat.not_lt_zero _))
theorem r_comeOn {e S : Nat} {fc af : Nat → Nat} {x1 : Int32} {σ : zS} {c : MC} {l : List Int32} {t : Nat} (h : PF 226 c l t σ) (h7 : σ 214 7 = 0) (hs : SR S fc af σ) (ht : t + 300 < 100000000) {Q : Int32 → zS → Prop}
    (hq : ∀ σ', Fr (pR 226) σ σ' → Q (b2i (coB c S fc af (σ 226))) σ') : ∀ w3, Z (e + 226) 264 Q 39 [.ref 214, .int x1, .int 0, w3] [] σ := by
  obtain ⟨s1, s2, s3⟩ := id hs
  have h9 : c.1 ≤ 9 := h.2.2.2.2.2.1.2.2.2
  have rounds : ∀ m k σ1 w3, k + m = 61 → Fr (pR 226) σ σ1 → PF 226 c l (t + k) σ1 → σ1 226 = mR c (σ 226) k → (∀ i, i < S → af i < k → coI c (σ 226) fc af i = true) → Z (e + 226) 264 Q 39 [.ref 214, .int x1, .int (nI k), w3] [] σ1 := by
    intro m
    induction m with
    | zero =>
      intro k σ1 w3 hk f1 p1 e1 g1
      refine k_264_39 ?_
      rw [if_pos (show (60 : Int32) < nI k from nI_lt (a := 60) (by omega) (by omega))]
      have e : coB c S fc af (σ 226) = true := alB_t S (fun i hi => g1 i hi (by have := (s3 i hi).2.1; omega))
      have := hq σ1 f1
      rw [e] at this
      exact this
    | succ m ih =>
      intro k σ1 w3 hk f1 p1 e1 g1
      refine k_264_39 ?_
      rw [if_neg (show ¬ (60 : Int32) < nI k from nI_nlt (a := 60) (by omega) (by omega))]
      refine r_passT226 (fr := false) p1 ((f1 214 7 (by decide)).trans h7) (by omega) (fun σ2 f2 p2 e2 y2 b2 m2 => ?_)
      rw [e1] at e2 y2
      have f12 := Fr.tr f1 f2
      have hs2 : SR S fc af σ2 := hs.ag (f12 214 46 (by decide)) (fun i => f12 233 i (by simp [pR]))
      obtain ⟨-, t2, t3⟩ := hs2
      refine z_for (F := S) (P := fun j => (∀ i, i < j → af i = k → coI c (σ 226) fc af i = true) → Z (e + 226) 264 Q 55 [.ref 214, .int x1, .int (nI k), .int (nI j)] [] σ2) (fun j hj ih2 => ?_) ?_ (fun i hi => absurd hi (Nat.not_lt_zero i))
      · intro gj
        refine k_264_55 ?_
        obtain ⟨a1, a2, a3, a4⟩ := t3 j hj
        rw [t2, if_pos (nI_lt hj (by omega)), show (2 : Int32) * nI j = nI (2 * j) from zm2 j, show nI (2 * j) + (1 : Int32) = nI (2 * j + 1) from nI_add _ 1, if_pos (zin_nI (by omega) (by decide)), if_pos (zin_nI (by omega) (by decide)), zcl (by omega), zcl (by omega), a4, a3, show nI j + (1 : Int32) = nI (j + 1) from nI_add j 1]
        by_cases hjk : af j = k
        · rw [if_pos (by rw [hjk]), y2, s_hasR _ (by omega)]
          cases hz : zb (ysS c false (mR c (σ 226) k)) (fc j)
          · rw [if_pos (show b2i false = 0 from rfl)]
            have e : coB c S fc af (σ 226) = false := alB_f (j := j) (by
              unfold coI
              rw [hjk]; exact hz) S hj
            have := hq σ2 f12
            rw [e] at this
            exact this
          · rw [if_neg (show ¬ b2i true = 0 by decide)]
            refine ih2 (fun i hi hik => ?_)
            by_cases q : i = j
            · rw [q]; unfold coI; rw [hjk]; exact hz
            · exact gj i (by omega) hik
        · rw [if_neg (fun q => hjk ((nI_eq (by omega) (by omega)).mp q))]
          refine ih2 (fun i hi hik => ?_)
          by_cases q : i = j
          · rw [q] at hik; exact absurd hik hjk
          · exact gj i (by omega) hik
      · intro gj
        refine k_264_55 ?_
        rw [t2, if_neg (nI_nlt (Nat.le_refl _) (by omega)), show nI k + (1 : Int32) = nI (k + 1) from nI_add k 1]
        refine ih (k + 1) σ2 _ (by omega) f12 p2 e2 (fun i hi hik => ?_)
        by_cases q : af i = k
        · exact gj i hi q
        · exact g1 i hi (by omega)
  exact fun w3 => rounds 61 0 σ w3 (by omega) Fr.rf h rfl (fun i hi q => absurd q (Nat.not_lt_zero _))
