/-! rows that say the same of faces; a minute of such; minutes played on either side -/
def REq (r r' : Nat → Int32) : Prop := ∀ i, i < 47 → r i = r' i
theorem yw_cong {fr : Bool} {r r' : Nat → Int32} (h : REq r r') {f : Nat} (hf : f < 9) : yw fr r f = yw fr r' f := by
  unfold yw
  rw [h f (by omega), h (18 + f) (by omega), h 45 (by omega), h 46 (by omega)]
theorem mw_cong {fr : Bool} {r r' : Nat → Int32} (h : REq r r') {f : Nat} (hf : f < 9) : mw fr r f = mw fr r' f := by
  unfold mw
  rw [yw_cong h hf, h (36 + f) (by omega)]
theorem ry_cong {fr : Bool} {r r' : Nat → Int32} (h : REq r r') : ∀ k, k ≤ 9 → REq (ry fr r k) (ry fr r' k) := by
  intro k
  induction k with
  | zero => intro _; exact h
  | succ k ih =>
    intro hk i hi
    have ih := ih (by omega)
    unfold ry
    rw [yw_cong h (by omega), h 46 (by omega)]
    split
    · rw [gy_at (by omega) hi, gy_at (by omega) hi, ih i hi, ih k (by omega)]
    · exact ih i hi
theorem cz_cong {c : MC} {q q' : Nat → Int32} {ys ms : Int32} {f : Nat} (h9 : c.1 ≤ 9) (hf : f < 9) (h : REq q q') : cz c q ys ms f = cz c q' ys ms f := by
  unfold cz
  rw [h 46 (by omega)]
  refine ff_cong _ _ (fun j h1 h2 => ?_)
  unfold ct
  rw [h f (by omega), h j (by omega), h (9 + f) (by omega), h 46 (by omega)]
theorem cb_cong {c : MC} {q q' : Nat → Int32} {ys ms : Int32} {f : Nat} (h9 : c.1 ≤ 9) (hf : f < 9) (h : REq q q') : cb c q ys ms f = cb c q' ys ms f := by
  unfold cb
  rw [cz_cong h9 hf h, h 45 (by omega), h (18 + f) (by omega)]
theorem rc_cong {c : MC} {q q' : Nat → Int32} {ys ms : Int32} (h9 : c.1 ≤ 9) (h : REq q q') : ∀ k, k ≤ 9 → REq (rc c q ys ms k) (rc c q' ys ms k) := by
  intro k
  induction k with
  | zero => intro _; exact h
  | succ k ih =>
    intro hk i hi
    have ih := ih (by omega)
    unfold rc
    rw [cb_cong h9 (by omega) ih, cz_cong h9 (by omega) ih, h 46 (by omega)]
    split
    · simp only [upd_app]
      rw [ih i hi]
    · exact ih i hi
theorem ysS_cong {c : MC} {fr : Bool} {r r' : Nat → Int32} (h9 : c.1 ≤ 9) (h : REq r r') : ysS c fr r = ysS c fr r' := bs_congr (fun f hf => yw_cong h (by omega))
theorem msS_cong {c : MC} {fr : Bool} {r r' : Nat → Int32} (h9 : c.1 ≤ 9) (h : REq r r') : msS c fr r = msS c fr r' := bs_congr (fun f hf => mw_cong h (by omega))
theorem r3_cong {c : MC} {fr : Bool} {r r' : Nat → Int32} (h9 : c.1 ≤ 9) (h : REq r r') : REq (r3 c fr r) (r3 c fr r') := by
  unfold r3
  rw [ysS_cong h9 h, msS_cong h9 h]
  exact rc_cong h9 (ry_cong h c.1 h9) c.1 h9
theorem cbS_cong {c : MC} {fr : Bool} {r r' : Nat → Int32} (h9 : c.1 ≤ 9) (h : REq r r') : cbS c fr r = cbS c fr r' := by
  unfold cbS
  rw [ysS_cong h9 h, msS_cong h9 h]
  exact bs_congr (fun f hf => cb_cong h9 (by omega) (rc_cong h9 (ry_cong h c.1 h9) f (by omega)))
theorem ms_cong {c : MC} {fr : Bool} {r r' : Nat → Int32} (h9 : c.1 ≤ 9) (h : REq r r') : REq (ms c fr r) (ms c fr r') := by
  intro i hi
  unfold ms
  rw [h 46 (by omega)]
  have h3 := r3_cong (fr := fr) h9 h
  simp only [upd_app]
  split
  · rfl
  · split
    · simp only [rt]
      rw [h3 i hi]
    · exact h3 i hi
theorem mw_yw {fr : Bool} {r : Nat → Int32} {f : Nat} (h : mw fr r f = true) : yw fr r f = true := by
  unfold mw at h
  rw [Bool.and_eq_true] at h
  exact h.1
/-! rows stay as they may be -/
theorem ry_36 {F : Nat} {fr : Bool} {r : Nat → Int32} (h9 : F ≤ 9) (h : ∀ f, f < F → r (36 + f) = 0 ∨ r (36 + f) = 1) : ∀ k, k ≤ 9 → ∀ f, f < F → ry fr r k (36 + f) = 0 ∨ ry fr r k (36 + f) = 1 := by
  intro k
  induction k with
  | zero => intro _; exact h
  | succ k ih =>
    intro hk f hf
    have ih := ih (by omega) f hf
    unfold ry
    split
    · rw [gy_at (by omega) (by omega), if_neg (by omega)]
      split
      · exact Or.inl rfl
      · rw [if_neg (by omega), if_neg (by omega)]; exact ih
    · exact ih
theorem rc_36 {F : Nat} {c : MC} {q : Nat → Int32} {ys ms : Int32} (h9 : F ≤ 9) (h : ∀ f, f < F → q (36 + f) = 0 ∨ q (36 + f) = 1) : ∀ k, k ≤ 9 → ∀ f, f < F → rc c q ys ms k (36 + f) = 0 ∨ rc c q ys ms k (36 + f) = 1 := by
  intro k
  induction k with
  | zero => intro _; exact h
  | succ k ih =>
    intro hk f hf
    have ih := ih (by omega) f hf
    unfold rc
    split
    · by_cases hfk : f = k
      · subst hfk; rw [upd_eq]; exact Or.inl rfl
      · rw [upd_ne (by omega), upd_ne (by omega), upd_ne (by omega)]; exact ih
    · exact ih
theorem ms_WR {c : MC} {fr : Bool} {r : Nat → Int32} {t : Nat} (h9 : c.1 ≤ 9) (h : WR c.1 t r) : WR c.1 (t + 1) (ms c fr r) := by
  obtain ⟨h1, h2, h3, y, h4, h5⟩ := h
  refine ⟨?_, ms_TR h9 h2, fun f hf => ?_, ?_⟩
  · unfold ms; rw [upd_eq, h1, nI_1]
  · have := rc_36 (c := c) (ys := ysS c fr r) (ms := msS c fr r) h9 (ry_36 (fr := fr) h9 h3 c.1 h9) c.1 h9 f hf
    unfold ms
    rw [upd_ne (by omega)]
    split
    · rw [show rt (r3 c fr r) c.1 (36 + f) = r3 c fr r (36 + f) from if_neg (by omega)]; exact this
    · exact this
  · obtain ⟨j, hj, e⟩ := ry_47 (fr := fr) h5 c.1 h9
    refine ⟨y + j, by omega, ?_⟩
    unfold ms
    rw [upd_ne (by omega)]
    have e3 : r3 c fr r 47 = nI (y + j) := by
      unfold r3; rw [rc_hi (Or.inr (by omega)) c.1 h9, e]
    split
    · rw [show rt (r3 c fr r) c.1 47 = r3 c fr r 47 from if_neg (by omega)]; exact e3
    · exact e3
/-- the class's trial, at a row -/
def PC (c : MC) (l : List Int32) (t : Nat) (r : Nat → Int32) (σ : zS) : Prop := c.2.2.2.1 = rvl l ∧ RL l σ ∧ CW 23 c σ ∧ CM 26 c.1 r σ ∧ WR c.1 t r
theorem c_passT {d : Nat} {σ : zS} {t : Nat} {c : MC} {l : List Int32} {fr : Bool} {r : Nat → Int32} (h : PC c l t r σ) (ht : t < 1073741824) {Q : Int32 → zS → Prop} (hq : ∀ σ', Fr (pw 23) σ σ' → PC c l (t + 1) (ms c fr r) σ' → σ' 23 4 = ysS c fr r → σ' 23 5 = msS c fr r → (∀ f, f < c.1 → yw fr r f = true → σ' 31 f = r (27 + f)) → Q 0 σ') : ZC (d + 5) 77 [.ref 23, .int (b2i fr)] σ Q := by
  obtain ⟨h1, h2, h3, h4, h5⟩ := h
  refine c_pass23 h3 (by rw [h1]; exact c_holds h2 d) (by rw [h1]; exact rvl_RVC l) h4 h5.2.1 h5.1 ht (fun σ' f1 c1 y1 m1 k1 l1 => ?_)
  refine hq σ' f1 ⟨h1, ?_, CW.fr (Or.inr rfl) h3 f1, c1, ms_WR h3.2.1 h5⟩ y1 m1 l1
  obtain ⟨g1, g2, g3, g4⟩ := h2
  exact ⟨(f1 3 2 (by decide)).trans g1, fun i hi => (f1 5 i (by simp [pw])).trans (g2 i hi), g3, g4⟩
/-- the reference's row A -/
def PF (A : Nat) (c : MC) (l : List Int32) (t : Nat) (σ : zS) : Prop := c.2.2.2.1 = rvl l ∧ RRef l σ ∧ σ 214 6 = nI c.2.2.2.2.1 ∧ c.2.2.2.2.1 ≤ 40 ∧ σ 218 = c.2.2.2.2.2 ∧ CKs A c σ ∧ WR c.1 t (σ A)
theorem RRef.ag {l : List Int32} {σ σ' : zS} (h : RRef l σ) (h20 : σ' 214 20 = σ 214 20) (h22 : ∀ i, σ' 222 i = σ 222 i) : RRef l σ' := by
  rcases h with ⟨g1, g2⟩ | ⟨n, C, g1, g2, g3, g4, g5, g6⟩
  · exact Or.inl ⟨h20.trans g1, g2⟩
  · exact Or.inr ⟨n, C, h20.trans g1, g2, g3, fun i hi => by rw [h22]; exact g4 i hi, g5, g6⟩
theorem PF.fr215 {c : MC} {l : List Int32} {t t' : Nat} {σ σ' : zS} (h : PF 215 c l t σ) (hf : Fr (pR 215) σ σ') (hw : WR c.1 t' (σ' 215)) : PF 215 c l t' σ' := by
  obtain ⟨h1, h2, h3, h4, h5, h6, h7⟩ := h
  refine ⟨h1, RRef.ag h2 (hf 214 20 (by decide)) (fun i => hf 222 i (by simp [pR])), (hf 214 6 (by decide)).trans h3, h4, ?_, CKs.fr (Or.inl rfl) h6 hf, hw⟩
  rw [← h5]; exact funext fun i => hf 218 i (by simp [pR])
theorem r_passT215 {d : Nat} {σ : zS} {t : Nat} {c : MC} {l : List Int32} {fr : Bool} (h : PF 215 c l t σ) (hfr : σ 214 7 = b2i fr) (ht : t < 100000000) {Q : Int32 → zS → Prop} (hq : ∀ σ', Fr (pR 215) σ σ' → PF 215 c l (t + 1) σ' → σ' 215 = ms c fr (σ 215) → σ' 214 26 = ysS c fr (σ 215) → σ' 214 27 = cbS c fr (σ 215) → σ' 214 28 = msS c fr (σ 215) → Q 0 σ') : ZC (d + 226) 205 [.ref 214, .ref 215] σ Q := by
  have h' := h
  obtain ⟨h1, h2, h3, h4, h5, h6, h7⟩ := h'
  obtain ⟨w1, w2, w3, y, w4, w5⟩ := h7
  refine r_goMinute215 (d := d + 220) h6 (by rw [h1, ← h5]; exact r_catches215 h2 h3 h4 d) hfr w1 (by omega) w5 (by omega) w3 (fun σ' f1 e1 e2 e3 e4 => ?_)
  refine hq σ' f1 (PF.fr215 h f1 ?_) e1 e2 e3 e4
  rw [e1]
  exact ms_WR h6.2.2.2 ⟨w1, w2, w3, y, w4, w5⟩
theorem PF.fr226 {c : MC} {l : List Int32} {t t' : Nat} {σ σ' : zS} (h : PF 226 c l t σ) (hf : Fr (pR 226) σ σ') (hw : WR c.1 t' (σ' 226)) : PF 226 c l t' σ' := by
  obtain ⟨h1, h2, h3, h4, h5, h6, h7⟩ := h
  refine ⟨h1, RRef.ag h2 (hf 214 20 (by decide)) (fun i => hf 222 i (by simp [pR])), (hf 214 6 (by decide)).trans h3, h4, ?_, CKs.fr (Or.inr rfl) h6 hf, hw⟩
  rw [← h5]; exact funext fun i => hf 218 i (by simp [pR])
theorem r_passT226 {d : Nat} {σ : zS} {t : Nat} {c : MC} {l : List Int32} {fr : Bool} (h : PF 226 c l t σ) (hfr : σ 214 7 = b2i fr) (ht : t < 100000000) {Q : Int32 → zS → Prop} (hq : ∀ σ', Fr (pR 226) σ σ' → PF 226 c l (t + 1) σ' → σ' 226 = ms c fr (σ 226) → σ' 214 26 = ysS c fr (σ 226) → σ' 214 27 = cbS c fr (σ 226) → σ' 214 28 = msS c fr (σ 226) → Q 0 σ') : ZC (d + 226) 205 [.ref 214, .ref 226] σ Q := by
  have h' := h
  obtain ⟨h1, h2, h3, h4, h5, h6, h7⟩ := h'
  obtain ⟨w1, w2, w3, y, w4, w5⟩ := h7
  refine r_goMinute226 (d := d + 220) h6 (by rw [h1, ← h5]; exact r_catches226 h2 h3 h4 d) hfr w1 (by omega) w5 (by omega) w3 (fun σ' f1 e1 e2 e3 e4 => ?_)
  refine hq σ' f1 (PF.fr226 h f1 ?_) e1 e2 e3 e4
  rw [e1]
  exact ms_WR h6.2.2.2 ⟨w1, w2, w3, y, w4, w5⟩
