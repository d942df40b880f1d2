/-! what a call of questions stands on -/
def scC (o i : Nat) : Bool := decide (o < 214) && scr o i
def scR (o i : Nat) : Bool := decide (214 ≤ o) && scr o i
/-- the same, with the ROW -/
def tC (o i : Nat) : Bool := decide (o < 214) && scrT o i
def tR (o i : Nat) : Bool := decide (214 ≤ o) && scrT o i
theorem scrT_s {o i : Nat} (h : scrT o i = false) : scr o i = false := by
  unfold scrT at h
  rw [Bool.or_eq_false_iff] at h
  exact h.1
theorem FrCT {σ σ' : zS} (h : Fr tC σ σ') : Fr scrT σ σ' := Fr.mono h (fun o i q => by unfold tC; rw [q, Bool.and_false])
theorem FrRT {σ σ' : zS} (h : Fr tR σ σ') : Fr scrT σ σ' := Fr.mono h (fun o i q => by unfold tR; rw [q, Bool.and_false])
theorem FrCs {σ σ' : zS} (h : Fr scC σ σ') : Fr scr σ σ' := Fr.mono h (fun o i q => by unfold scC; rw [q, Bool.and_false])
theorem FrRs {σ σ' : zS} (h : Fr scR σ σ') : Fr scr σ σ' := Fr.mono h (fun o i q => by unfold scR; rw [q, Bool.and_false])
theorem Fr.cT {σ σ' : zS} (h : Fr scC σ σ') : Fr tC σ σ' := Fr.mono h (fun o i q => by
  unfold tC at q
  unfold scC
  rw [Bool.and_eq_false_iff] at q ⊢
  rcases q with q | q
  · exact Or.inl q
  · exact Or.inr (scrT_s q))
theorem Fr.rT {σ σ' : zS} (h : Fr scR σ σ') : Fr tR σ σ' := Fr.mono h (fun o i q => by
  unfold tR at q
  unfold scR
  rw [Bool.and_eq_false_iff] at q ⊢
  rcases q with q | q
  · exact Or.inl q
  · exact Or.inr (scrT_s q))
theorem FrC {σ σ' : zS} (h : Fr scC σ σ') : Fr scrT σ σ' := FrCT h.cT
theorem FrR {σ σ' : zS} (h : Fr scR σ σ') : Fr scrT σ σ' := FrRT h.rT
def Ctx (c : MC) (l : List Int32) (t : Nat) (σ : zS) : Prop := c.2.2.2.1 = rvl l ∧ RL l σ ∧ CW 14 c σ ∧ CM 17 c.1 (σ 215) σ ∧ RRef l σ ∧ σ 214 6 = nI c.2.2.2.2.1 ∧ σ 218 = c.2.2.2.2.2 ∧ CKs 226 c σ ∧ WR c.1 t (σ 215) ∧ σ 214 7 = 0 ∧ σ 0 13 = σ 214 4
theorem Ctx.fr {c : MC} {l : List Int32} {t : Nat} {σ σ' : zS} (h : Ctx c l t σ) (hf : Fr scrT σ σ') : Ctx c l t σ' := by
  obtain ⟨h1, ⟨g1, g2, g3, g4⟩, ⟨k1, k2, k3, k4, k5, k6⟩, h4, h5, h6, h7, ⟨m1, m2, m3, m4⟩, h9, h10, h11⟩ := h
  have e : ∀ o, (o = 5 ∨ o = 7 ∨ (15 ≤ o ∧ o ≤ 21) ∨ (215 ≤ o ∧ o ≤ 218) ∨ o = 222) → ∀ i, σ' o i = σ o i := by
    intro o ho i
    refine hf o i ?_
    simp only [scrT, scr, dTold, Bool.or_eq_false_iff, decide_eq_false_iff_not]
    omega
  have e215 : σ' 215 = σ 215 := funext (e 215 (by omega))
  refine ⟨h1, ⟨?_, fun i hi => (e 5 (by omega) i).trans (g2 i hi), g3, g4⟩, ⟨?_, k2, fun f q => ⟨(e 15 (by omega) f).trans (k3 f q).1, (e 16 (by omega) f).trans (k3 f q).2⟩, ?_, k5, fun i q => (e 7 (by omega) i).trans (k6 i q)⟩, ?_, RRef.ag h5 ?_ (e 222 (by omega)), ?_, (funext (e 218 (by omega))).trans h7, ⟨?_, (funext (e 216 (by omega))).trans m2, (funext (e 217 (by omega))).trans m3, m4⟩, ?_, ?_, ?_⟩
  · exact (hf 3 2 (by decide)).trans g1
  · exact (hf 14 3 (by decide)).trans k1
  · exact (hf 3 5 (by decide)).trans k4
  · rw [e215]; exact CM.ag h4 (fun o i q1 q2 => e o (by omega) i)
  · exact hf 214 20 (by decide)
  · exact (hf 214 6 (by decide)).trans h6
  · exact (hf 214 1 (by decide)).trans m1
  · rw [e215]; exact h9
  · exact (hf 214 7 (by decide)).trans h10
  · rw [hf 0 13 (by decide), hf 214 4 (by decide)]; exact h11
theorem Inv.ctx {b : Nat} {σ : zS} (h : Inv b σ) : ∃ c l t, t ≤ b ∧ Ctx c l t σ := by
  obtain ⟨F, l, W, ⟨h1, h2, h3, h4, -⟩, ⟨g1, g2, t, g3, g4⟩, ⟨k1, k2⟩, ⟨w1, w2, w3, w4⟩, -, hj, -, -, -, -, -, h7⟩ := h
  exact ⟨(F, σ 216, σ 217, rvl l, W, σ 218), l, t, g3, rfl, k1, ⟨h2, h1, h4, w2, w1, w4⟩, g1, k2, w3, rfl, ⟨h3, rfl, rfl, h1⟩, g4, h7, hj⟩
theorem fr_scC {p : Nat → Nat → Bool} {σ σ' : zS} (h : Fr p σ σ') (hp : ∀ o i, p o i = true → scC o i = true) : Fr scC σ σ' := Fr.mono h (fun o i q => by
  cases hb : p o i
  · rfl
  · rw [hp o i hb] at q; cases q)
theorem fr_scR {p : Nat → Nat → Bool} {σ σ' : zS} (h : Fr p σ σ') (hp : ∀ o i, p o i = true → scR o i = true) : Fr scR σ σ' := Fr.mono h (fun o i q => by
  cases hb : p o i
  · rfl
  · rw [hp o i hb] at q; cases q)
theorem sc_4 (i : Nat) : scC 4 i = true := rfl
theorem sc_6 (i : Nat) : scC 6 i = true := rfl
theorem sc_hi {o i : Nat} (h : 22 ≤ o ∧ o ≤ 31) : scC o i = true := by
  have e1 : scr o i = true := by unfold scr; exact decide_eq_true (Or.inr (Or.inr (Or.inl h)))
  unfold scC
  rw [e1, decide_eq_true (by omega)]; rfl
theorem sc_0 {i : Nat} (h : i = 14 ∨ i = 15) : scC 0 i = true := by rcases h with rfl | rfl <;> rfl
theorem sc_191 (i : Nat) : scC 191 i = true := rfl
theorem sr_hi {o i : Nat} (h : 224 ≤ o ∧ o ≤ 230) : scR o i = true := by
  have e1 : scr o i = true := by unfold scr; exact decide_eq_true (by omega)
  unfold scR
  rw [e1, decide_eq_true (by omega)]; rfl
theorem sr_232 (i : Nat) : scR 232 i = true := rfl
theorem sr_221 (i : Nat) : scR 221 i = true := rfl
theorem sr_214 : ∀ i, i < 51 → ((12 ≤ i ∧ i ≤ 17) ∨ (21 ≤ i ∧ i ≤ 28) ∨ i = 33 ∨ i = 35 ∨ i = 36 ∨ i = 38) → scR 214 i = true := by decide
theorem Fr.sS {σ σ' : zS} (h : Fr pS σ σ') : Fr scC σ σ' := fr_scC h (fun o i q => by
  unfold pS pw at q
  rw [Bool.or_eq_true, decide_eq_true_eq, decide_eq_true_eq] at q
  rcases q with (rfl | rfl | ⟨rfl, h2⟩ | h2) | ⟨rfl, h2⟩
  · exact sc_4 i
  · exact sc_6 i
  · exact sc_hi (by omega)
  · exact sc_hi (by omega)
  · exact sc_0 (by omega))
theorem Fr.sRS {σ σ' : zS} (h : Fr pRS σ σ') : Fr scR σ σ' := fr_scR h (fun o i q => by
  unfold pRS pR at q
  rw [Bool.or_eq_true, Bool.or_eq_true, Bool.and_eq_true, Bool.or_eq_true, decide_eq_true_eq, decide_eq_true_eq, decide_eq_true_eq, decide_eq_true_eq, decide_eq_true_eq] at q
  rcases q with (rfl | ⟨rfl, h2⟩) | ⟨rfl, h2⟩
  · exact sr_hi (by omega)
  · exact sr_214 i (by omega) (by omega)
  · exact sr_214 i (by omega) (by omega))
theorem Fr.spw {σ σ' : zS} (h : Fr (pw 23) σ σ') : Fr scC σ σ' := Fr.sS (frS h)
theorem Fr.spR {σ σ' : zS} (h : Fr (pR 226) σ σ') : Fr scR σ σ' := Fr.sRS (frRS h)
theorem c_take1 {d : Nat} {σ : zS} {c : MC} {l : List Int32} {t : Nat} (h : Ctx c l t σ) {Q : Int32 → zS → Prop} (hq : ∀ σ', Fr scC σ σ' → PC c l t (σ 215) σ' → Q 0 σ') : ZC (d + 2) 71 [.ref 23, .ref 14] σ Q := by
  obtain ⟨h1, ⟨g1, g2, g3, g4⟩, ⟨k1, k2, k3, k4, k5, k6⟩, h4, h5, h6, h7, h8, h9, h10, h11⟩ := h
  refine c_take (fun σ' f1 m1 e1 e2 => ?_)
  refine hq σ' (fr_scC f1 (fun o i q => ?_)) ⟨h1, ⟨(f1 3 2 (by decide)).trans g1, fun i hi => (f1 5 i (by simp)).trans (g2 i hi), g3, g4⟩, ⟨e1.trans k1, k2, fun f q => ?_, (f1 3 5 (by decide)).trans k4, k5, fun i q => (f1 7 i (by simp)).trans (k6 i q)⟩, CM.copy k2 m1 h4, h9⟩
  · exact sc_hi (by have := of_decide_eq_true q; omega)
  · obtain ⟨q1, q2⟩ := e2 f (by omega)
    exact ⟨q1.trans (k3 f q).1, q2.trans (k3 f q).2⟩
theorem WR_cong {F t : Nat} {r r' : Nat → Int32} (h9 : F ≤ 9) (h : WR F t r) (he : ∀ i, i < 288 → r' i = r i) : WR F t r' := by
  obtain ⟨h1, h2, h3, y, h4, h5⟩ := h
  exact ⟨(he 46 (by omega)).trans h1, fun f hf => by rw [he f (by omega)]; exact h2 f hf, fun f hf => by rw [he (36 + f) (by omega)]; exact h3 f hf, y, h4, (he 47 (by omega)).trans h5⟩
theorem r_begin1 {d : Nat} {σ : zS} {c : MC} {l : List Int32} {t : Nat} (h : Ctx c l t σ) {Q : Int32 → zS → Prop} (hq : ∀ σ', Fr (fun o _ => decide (o = 226)) σ σ' → PF 226 c l t σ' → (∀ i, i < 288 → σ' 226 i = σ 215 i) → Q 0 σ') : ZC (d + 2) 227 [.ref 214] σ Q := by
  obtain ⟨h1, h2, ⟨k1, k2, k3, k4, k5, k6⟩, h4, h5, h6, h7, ⟨m1, m2, m3, m4⟩, h9, h10, h11⟩ := h
  refine r_beginThen (fun g hg => ?_)
  have f1 : Fr (fun o _ => decide (o = 226)) σ (zput σ 226 g) := Fr.put (fun i q => by simp at q)
  have e226 : (zput σ 226 g) 226 = g := by simp only [zput_app, ↓reduceIte]
  refine hq _ f1 ⟨h1, RRef.ag h5 (f1 214 20 (by decide)) (fun i => f1 222 i (by simp)), (f1 214 6 (by decide)).trans h6, k5, ?_, ⟨(f1 214 1 (by decide)).trans m1, ?_, ?_, m4⟩, ?_⟩ (fun i hi => by rw [e226]; exact hg i hi)
  · rw [← h7]; exact funext fun i => f1 218 i (by simp)
  · rw [← m2]; exact funext fun i => f1 216 i (by simp)
  · rw [← m3]; exact funext fun i => f1 217 i (by simp)
  · rw [e226]; exact WR_cong k2 h9 hg
theorem Fr.s226 {σ σ' : zS} (h : Fr (fun o _ => decide (o = 226)) σ σ') : Fr scR σ σ' := fr_scR h (fun o i q => sr_hi (by have := of_decide_eq_true q; omega))
/-! telling -/
def TL (k : Nat) (v : Nat → Int32) (σ : zS) : Prop := σ 0 12 = nI k ∧ ∀ i, i < k → σ 190 i = v i
def TLr (k : Nat) (v : Nat → Int32) (σ : zS) : Prop := σ 214 11 = nI k ∧ ∀ i, i < k → σ 220 i = v i
theorem TL.R {k : Nat} {v : Nat → Int32} {σ σ' : zS} (h : TL k v σ) (hf : Fr tR σ σ') : TL k v σ' := ⟨(hf 0 12 (by decide)).trans h.1, fun i hi => (hf 190 i (by simp [tR])).trans (h.2 i hi)⟩
def frTC (o i : Nat) : Bool := decide ((o = 0 ∧ i = 12) ∨ o = 190)
theorem Fr.sTC {σ σ' : zS} (h : Fr frTC σ σ') : Fr tC σ σ' := Fr.mono h (fun o i q => by
  cases hb : frTC o i
  · rfl
  · rcases of_decide_eq_true hb with ⟨rfl, rfl⟩ | rfl
    · exact absurd q (by decide)
    · exact absurd q (by simp [tC, scrT, dTold]))
def frTR (o i : Nat) : Bool := decide ((o = 214 ∧ i = 11) ∨ o = 220)
theorem Fr.sTR {σ σ' : zS} (h : Fr frTR σ σ') : Fr tR σ σ' := Fr.mono h (fun o i q => by
  cases hb : frTR o i
  · rfl
  · rcases of_decide_eq_true hb with ⟨rfl, rfl⟩ | rfl
    · exact absurd q (by decide)
    · exact absurd q (by simp [tR, scrT, dTold]))
def tv1 (a : Int32) : Nat → Int32 := fun _ => a
def tv2 (a b : Int32) : Nat → Int32 := fun i => if i = 0 then a else b
def tv4 (a b c e : Int32) : Nat → Int32 := fun i => if i = 0 then a else if i = 1 then b else if i = 2 then c else e
theorem c_tell1 {d : Nat} {σ : zS} {a : Int32} {Q : Int32 → zS → Prop} (h : ∀ σ', Fr frTC σ σ' → TL 1 (tv1 a) σ' → Q 0 σ') : ZC (d + 1) 138 [.ref 0, .int a] σ Q := by
  refine k_138_0 ?_
  refine h _ (Fr.tr (Fr.up (by decide)) (Fr.up (by decide))) ⟨rfl, fun i hi => ?_⟩
  have : i = 0 := by omega
  subst this; rfl
theorem c_tell2 {d : Nat} {σ : zS} {a b : Int32} {Q : Int32 → zS → Prop} (h : ∀ σ', Fr frTC σ σ' → TL 2 (tv2 a b) σ' → Q 0 σ') : ZC (d + 1) 139 [.ref 0, .int a, .int b] σ Q := by
  refine k_139_0 ?_
  refine h _ (Fr.tr (Fr.tr (Fr.up (by decide)) (Fr.up (by decide))) (Fr.up (by decide))) ⟨rfl, fun i hi => ?_⟩
  have : i = 0 ∨ i = 1 := by omega
  rcases this with rfl | rfl <;> rfl
theorem c_tell4 {d : Nat} {σ : zS} {a b c e : Int32} {Q : Int32 → zS → Prop} (h : ∀ σ', Fr frTC σ σ' → TL 4 (tv4 a b c e) σ' → Q 0 σ') : ZC (d + 1) 140 [.ref 0, .int a, .int b, .int c, .int e] σ Q := by
  refine k_140_0 ?_
  refine h _ (Fr.tr (Fr.tr (Fr.tr (Fr.tr (Fr.up (by decide)) (Fr.up (by decide))) (Fr.up (by decide))) (Fr.up (by decide))) (Fr.up (by decide))) ⟨rfl, fun i hi => ?_⟩
  have : i = 0 ∨ i = 1 ∨ i = 2 ∨ i = 3 := by omega
  rcases this with rfl | rfl | rfl | rfl <;> rfl
theorem r_tellN {d : Nat} {σ : zS} {n : Nat} {v : Nat → Int32} (h : TLr n v σ) (hn : n < 16) {x : Int32} {Q : Int32 → zS → Prop} (hq : ∀ σ', Fr frTR σ σ' → TLr (n + 1) (upd v n x) σ' → Q 0 σ') : ZC (d + 1) 174 [.ref 214, .int x] σ Q := by
  rw [r_tell h.1 hn]
  refine hq _ (Fr.tr (Fr.put (fun i q => ?_)) (Fr.put (fun i q => by simp [frTR] at q))) ⟨?_, fun i hi => ?_⟩
  · have hi : i ≠ 11 := by rintro rfl; simp [frTR] at q
    rw [upd_ne hi]
  · simp (disch := omega) only [zup_eq, zput_app, zput_twice, upd_same, nI_1, za2, zA2, zm2, za3, zA3, zm3, za4, zA4, zm4, za9, zA9, zm9, za10, zA10, zm10, za18, zA18, zm18, za27, zA27, zm27, za36, zA36, zm36, za48, zA48, zm48, za288, zA288, zm288, zcl, zinT, upd_ne, upd_eq, zlt, znlt, zl2, zn2_, zl3, zn3_, zl5, zn5_, zl9, zn9_, zl10, zn10_, zl16, zn16_, zl20, zn20_, zl40, zn40_, zl60, zn60_, zl76, zn76_, zl80, zn80_, zl288, zn288_, zl300, zn300_, zneg, Nat.reduceEqDiff, Nat.reduceAdd, ↓reduceIte]
  · simp (disch := omega) only [zput_app, Nat.reduceEqDiff, ↓reduceIte]
    by_cases h2 : i = n
    · rw [h2, upd_eq, upd_eq]
    · rw [upd_ne h2, upd_ne h2]; exact h.2 i (by omega)
theorem TLr.zero (σ : zS) (v : Nat → Int32) : TLr 0 v (zup σ 214 11 0) := ⟨by simp (disch := omega) only [zup_eq, zput_app, zput_twice, upd_same, nI_1, za2, zA2, zm2, za3, zA3, zm3, za4, zA4, zm4, za9, zA9, zm9, za10, zA10, zm10, za18, zA18, zm18, za27, zA27, zm27, za36, zA36, zm36, za48, zA48, zm48, za288, zA288, zm288, zcl, zinT, upd_ne, upd_eq, zlt, znlt, zl2, zn2_, zl3, zn3_, zl5, zn5_, zl9, zn9_, zl10, zn10_, zl16, zn16_, zl20, zn20_, zl40, zn40_, zl60, zn60_, zl76, zn76_, zl80, zn80_, zl288, zn288_, zl300, zn300_, zneg, Nat.reduceEqDiff, Nat.reduceAdd, ↓reduceIte]; rfl, fun i hi => absurd hi (Nat.not_lt_zero i)⟩
theorem fr11 {σ : zS} : Fr frTR σ (zup σ 214 11 0) := Fr.up (by decide)
theorem fr12 {σ : zS} : Fr scR σ (zup σ 214 12 0) := Fr.up (by decide)
theorem r_tell1 {d : Nat} {σ : zS} {a : Int32} {Q : Int32 → zS → Prop} (h : ∀ σ', Fr frTR σ σ' → TLr 1 (tv1 a) σ' → Q 0 σ') : ZC (d + 1) 174 [.ref 214, .int a] (zup σ 214 11 0) Q := by
  refine r_tellN (TLr.zero _ (fun _ => 0)) (by decide) (fun σ' f t => h σ' (Fr.tr fr11 f) ⟨t.1, fun i hi => ?_⟩)
  have : i = 0 := by omega
  subst this; exact t.2 0 (by omega)
theorem r_tell2 {d e : Nat} {σ : zS} {a : Int32} {g : zS → Int32} {K : Int32 → zS → Prop} (hg : ∀ σ', Fr frTR σ σ' → g σ' = g σ) (h : ∀ σ', Fr frTR σ σ' → TLr 2 (tv2 a (g σ)) σ' → K 0 σ') : ZC (d + 1) 174 [.ref 214, .int a] (zup σ 214 11 0) (fun _ s5 => ZC (e + 1) 174 [.ref 214, .int (g s5)] s5 (fun _ s7 => K 0 s7)) := by
  refine r_tellN (TLr.zero _ (fun _ => 0)) (by decide) (fun σ1 f1 t1 => ?_)
  rw [hg σ1 (Fr.tr fr11 f1)]
  refine r_tellN t1 (by decide) (fun σ2 f2 t2 => h σ2 (Fr.tr fr11 (Fr.tr f1 f2)) ⟨t2.1, fun i hi => ?_⟩)
  have : i = 0 ∨ i = 1 := by omega
  rcases this with rfl | rfl
  · exact t2.2 0 (by omega)
  · exact t2.2 1 (by omega)
/-- the end of a question: nothing told (none), or numbers -/
abbrev TT : Type := Option (Nat × (Nat → Int32))
def CE (T : TT) (σ σ1 : zS) : Prop := match T with
  | none => Fr scC σ σ1
  | some (k, v) => k ≤ 16 ∧ Fr tC σ σ1 ∧ TL k v σ1
def RE (T : TT) (σ σ1 : zS) : Prop := match T with
  | none => Fr scR σ σ1
  | some (k, v) => Fr tR σ σ1 ∧ TLr k v σ1
theorem CE.fr {T : TT} {σ σ1 : zS} (h : CE T σ σ1) : Fr tC σ σ1 := by
  cases T with
  | none => exact Fr.cT h
  | some q => exact h.2.1
theorem RE.fr {T : TT} {σ σ1 : zS} (h : RE T σ σ1) : Fr tR σ σ1 := by
  cases T with
  | none => exact Fr.rT h
  | some q => exact h.1
/-- both calls, one behind the other -/
def Both (dc mc : Nat) (ac : List Value) (dr mr : Nat) (ar : List Value) (b : Nat) (σ : zS) : Prop := ZC dc mc ac σ (fun v1 σ1 => ZC dr mr ar σ1 (fun v2 σ2 => v1 = v2 ∧ Inv b σ2))
theorem both_q {dc mc dr mr b : Nat} {ac ar : List Value} {σ : zS} (h : Inv b σ) (V : Int32) (T : TT) (hc : ∀ Q : Int32 → zS → Prop, (∀ σ1, CE T σ σ1 → Q V σ1) → ZC dc mc ac σ Q) (hr : ∀ σ1, Fr tC σ σ1 → ∀ Q : Int32 → zS → Prop, (∀ σ2, RE T σ1 σ2 → Q V σ2) → ZC dr mr ar σ1 Q) : Both dc mc ac dr mr ar b σ := by
  refine hc _ (fun σ1 h1 => hr σ1 h1.fr _ (fun σ2 h2 => ⟨rfl, ?_⟩))
  cases T with
  | none => exact Inv.sc h (Fr.tr (FrCs h1) (FrRs h2))
  | some q =>
    obtain ⟨k, v⟩ := q
    obtain ⟨hk, c1, c2⟩ := h1
    obtain ⟨r1, r2⟩ := h2
    have c3 := c2.R r1
    exact Inv.told h (Fr.tr (FrCT c1) (FrRT r1)) ⟨k, hk, c3.1, r2.1, fun i hi => by rw [c3.2 i hi, r2.2 i hi]⟩
