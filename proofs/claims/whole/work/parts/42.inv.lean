/-! what holds of both between calls */ -/
/-- a row as it may be: t minutes gone -/
def WR (F t : Nat) (r : Nat → Int32) : Prop := r 46 = nI t ∧ TR F r ∧ (∀ f, f < F → r (36 + f) = 0 ∨ r (36 + f) = 1) ∧ ∃ y, y ≤ 9 * t ∧ r 47 = nI y
/-- a book (object bk and its four rows) holds what a row says -/
def CB (bk : Nat) (r : Nat → Int32) (σ : zS) : Prop := ∃ y, y < 1073741824 ∧ r 47 = nI y ∧ σ bk 4 = nI (if y < 60 then y else 60) ∧ σ bk 5 = nI (if y < 60 then 0 else y % 60) ∧ ∀ p, p < 60 → σ (bk + 1) p = r (48 + 4 * p) ∧ σ (bk + 2) p = r (48 + 4 * p + 1) ∧ σ (bk + 3) p = r (48 + 4 * p + 2) ∧ σ (bk + 4) p = r (48 + 4 * p + 3)
def AG (dep : Nat → Nat → Bool) (σ σ' : zS) : Prop := ∀ o i, dep o i = true → σ' o i = σ o i
theorem AG.of {p dep : Nat → Nat → Bool} {σ σ' : zS} (h : Fr p σ σ') (hp : ∀ o i, dep o i = true → p o i = false) : AG dep σ σ' := fun o i q => h o i (hp o i q)
theorem CM.ag {mo F : Nat} {r : Nat → Int32} {σ σ' : zS} (h : CM mo F r σ) (hf : ∀ o i, mo ≤ o → o ≤ mo + 4 → σ' o i = σ o i) : CM mo F r σ' :=
  CM.fr (p := fun o _ => !decide (mo ≤ o ∧ o ≤ mo + 4)) h (fun o i q => by
    simp only [Bool.not_eq_false', decide_eq_true_eq] at q
    exact hf o i q.1 q.2) (fun o i h1 h2 => by simp [h1, h2])
theorem CB.ag {bk : Nat} {r r' : Nat → Int32} {σ σ' : zS} (h : CB bk r σ) (hr : ∀ i, 47 ≤ i → i < 288 → r' i = r i) (hf : ∀ o i, bk ≤ o → o ≤ bk + 4 → σ' o i = σ o i) : CB bk r' σ' := by
  obtain ⟨y, h0, h1, h2, h3, h4⟩ := h
  refine ⟨y, h0, (hr 47 (by omega) (by omega)).trans h1, (hf bk 4 (by omega) (by omega)).trans h2, (hf bk 5 (by omega) (by omega)).trans h3, fun p hp => ?_⟩
  obtain ⟨a1, a2, a3, a4⟩ := h4 p hp
  rw [hf (bk + 1) p (by omega) (by omega), hf (bk + 2) p (by omega) (by omega), hf (bk + 3) p (by omega) (by omega), hf (bk + 4) p (by omega) (by omega), hr (48 + 4 * p) (by omega) (by omega), hr (48 + 4 * p + 1) (by omega) (by omega), hr (48 + 4 * p + 2) (by omega) (by omega), hr (48 + 4 * p + 3) (by omega) (by omega)]
  exact ⟨a1, a2, a3, a4⟩
def dWall (o i : Nat) : Bool := decide ((o = 14 ∧ i = 3) ∨ o = 15 ∨ o = 16 ∨ (o = 214 ∧ i = 1) ∨ o = 216 ∨ o = 217)
def pWall (F : Nat) (σ : zS) : Prop := F ≤ 9 ∧ σ 14 3 = nI F ∧ σ 214 1 = nI F ∧ (∀ f, f < F → σ 15 f = σ 216 f ∧ σ 16 f = σ 217 f) ∧ ∀ f, f < F → ∃ n, 1 ≤ n ∧ n ≤ 9 ∧ σ 216 f = nI n
theorem pWall.ag {F : Nat} {σ σ' : zS} (h : AG dWall σ σ') (hp : pWall F σ) : pWall F σ' := by
  obtain ⟨h1, h2, h3, h4, h5⟩ := hp
  refine ⟨h1, (h 14 3 (by decide)).trans h2, (h 214 1 (by decide)).trans h3, fun f hf => ?_, fun f hf => ?_⟩
  · rw [h 15 f (by simp [dWall]), h 16 f (by simp [dWall]), h 216 f (by simp [dWall]), h 217 f (by simp [dWall])]
    exact h4 f hf
  · rw [h 216 f (by simp [dWall])]
    exact h5 f hf
def dRow (o i : Nat) : Bool := decide ((17 ≤ o ∧ o ≤ 21) ∨ o = 215 ∨ (32 ≤ o ∧ o ≤ 36))
def pRow (F b : Nat) (σ : zS) : Prop := CM 17 F (σ 215) σ ∧ CB 32 (σ 215) σ ∧ ∃ t, t ≤ b ∧ WR F t (σ 215)
theorem pRow.ag {F b : Nat} {σ σ' : zS} (h : AG dRow σ σ') (hp : pRow F b σ) : pRow F b σ' := by
  obtain ⟨h1, h2, h3⟩ := hp
  have e : σ' 215 = σ 215 := funext fun i => h 215 i (by simp [dRow])
  unfold pRow
  rw [e]
  exact ⟨CM.ag h1 (fun o i q1 q2 => h o i (by simp [dRow]; omega)), CB.ag h2 (fun _ _ _ => rfl) (fun o i q1 q2 => h o i (by simp [dRow]; omega)), h3⟩
def dRule (o i : Nat) : Bool := decide ((o = 3 ∧ i = 2) ∨ o = 5 ∨ (o = 214 ∧ i = 20) ∨ o = 222)
def pRule (l : List Int32) (σ : zS) : Prop := RL l σ ∧ RRef l σ
theorem pRule.ag {l : List Int32} {σ σ' : zS} (h : AG dRule σ σ') (hp : pRule l σ) : pRule l σ' := by
  obtain ⟨⟨h1, h2, h3, h4⟩, h5⟩ := hp
  refine ⟨⟨(h 3 2 (by decide)).trans h1, fun i hi => (h 5 i (by simp [dRule])).trans (h2 i hi), h3, h4⟩, ?_⟩
  have e : σ' 214 20 = σ 214 20 := h 214 20 (by decide)
  rcases h5 with ⟨g1, g2⟩ | ⟨n, C, g1, g2, g3, g4, g5, g6⟩
  · exact Or.inl ⟨e.trans g1, g2⟩
  · exact Or.inr ⟨n, C, e.trans g1, g2, g3, fun i hi => by rw [h 222 i (by simp [dRule])]; exact g4 i hi, g5, g6⟩
def dWind (o i : Nat) : Bool := decide ((o = 3 ∧ i = 5) ∨ o = 7 ∨ (o = 214 ∧ i = 6) ∨ o = 218)
def pWind (W : Nat) (σ : zS) : Prop := W ≤ 40 ∧ σ 3 5 = nI W ∧ σ 214 6 = nI W ∧ ∀ i, i < W → σ 7 i = σ 218 i
theorem pWind.ag {W : Nat} {σ σ' : zS} (h : AG dWind σ σ') (hp : pWind W σ) : pWind W σ' := by
  obtain ⟨h1, h2, h3, h4⟩ := hp
  exact ⟨h1, (h 3 5 (by decide)).trans h2, (h 214 6 (by decide)).trans h3, fun i hi => by rw [h 7 i (by simp [dWind]), h 218 i (by simp [dWind])]; exact h4 i hi⟩
/-- a sign, told as an int and as a byte -/
def chT (x y : Int32) : Prop := ∃ n, chR x n ∧ chR y n
def dText (o i : Nat) : Bool := decide ((o = 1 ∧ i = 1) ∨ o = 2 ∨ (o = 214 ∧ i = 9) ∨ o = 219)
def pText (σ : zS) : Prop := ∃ T, T ≤ 80 ∧ σ 1 1 = nI T ∧ σ 214 9 = nI T ∧ ∀ i, i < 80 → chT (σ 2 i) (σ 219 i)
theorem pText.ag {σ σ' : zS} (h : AG dText σ σ') (hp : pText σ) : pText σ' := by
  obtain ⟨T, h1, h2, h3, h4⟩ := hp
  exact ⟨T, h1, (h 1 1 (by decide)).trans h2, (h 214 9 (by decide)).trans h3, fun i hi => by rw [h 2 i (by simp [dText]), h 219 i (by simp [dText])]; exact h4 i hi⟩
def dJd (o i : Nat) : Bool := decide ((o = 0 ∧ i = 13) ∨ (o = 214 ∧ i = 4))
def pJd (σ : zS) : Prop := σ 0 13 = σ 214 4
theorem pJd.ag {σ σ' : zS} (h : AG dJd σ σ') (hp : pJd σ) : pJd σ' := by
  unfold pJd
  rw [h 0 13 (by decide), h 214 4 (by decide)]; exact hp
def dTold (o i : Nat) : Bool := decide ((o = 0 ∧ i = 12) ∨ o = 190 ∨ (o = 214 ∧ i = 11) ∨ o = 220)
def pTold (σ : zS) : Prop := ∃ k, k ≤ 16 ∧ σ 0 12 = nI k ∧ σ 214 11 = nI k ∧ ∀ i, i < k → σ 190 i = σ 220 i
theorem pTold.ag {σ σ' : zS} (h : AG dTold σ σ') (hp : pTold σ) : pTold σ' := by
  obtain ⟨k, h1, h2, h3, h4⟩ := hp
  exact ⟨k, h1, (h 0 12 (by decide)).trans h2, (h 214 11 (by decide)).trans h3, fun i hi => by rw [h 190 i (by simp [dTold]), h 220 i (by simp [dTold])]; exact h4 i hi⟩
def dCrew (o i : Nat) : Bool := decide ((o = 183 ∧ i = 3) ∨ (184 ≤ o ∧ o ≤ 186) ∨ (o = 214 ∧ i = 43) ∨ o = 231)
def pCrew (σ : zS) : Prop := ∃ k, k ≤ 5 ∧ σ 183 3 = nI k ∧ σ 214 43 = nI k ∧ ∀ i, i < k → ∃ x y z, x ≤ 600 ∧ y ≤ 9 ∧ z ≤ 99 ∧ σ 184 i = nI x ∧ σ 185 i = nI y ∧ σ 186 i = nI z ∧ σ 231 (3 * i) = nI x ∧ σ 231 (3 * i + 1) = nI y ∧ σ 231 (3 * i + 2) = nI z
theorem pCrew.ag {σ σ' : zS} (h : AG dCrew σ σ') (hp : pCrew σ) : pCrew σ' := by
  obtain ⟨k, h1, h2, h3, h4⟩ := hp
  refine ⟨k, h1, (h 183 3 (by decide)).trans h2, (h 214 43 (by decide)).trans h3, fun i hi => ?_⟩
  rw [h 184 i (by simp [dCrew]), h 185 i (by simp [dCrew]), h 186 i (by simp [dCrew]), h 231 (3 * i) (by simp [dCrew]), h 231 (3 * i + 1) (by simp [dCrew]), h 231 (3 * i + 2) (by simp [dCrew])]
  exact h4 i hi
def dSeen (o i : Nat) : Bool := decide ((o = 187 ∧ i = 0) ∨ o = 188 ∨ o = 189 ∨ (o = 214 ∧ i = 46) ∨ o = 233)
def pSeen (σ : zS) : Prop := ∃ k, k ≤ 10 ∧ σ 187 0 = nI k ∧ σ 214 46 = nI k ∧ ∀ i, i < k → ∃ x y, x < 9 ∧ y ≤ 60 ∧ σ 188 i = nI x ∧ σ 189 i = nI y ∧ σ 233 (2 * i) = nI x ∧ σ 233 (2 * i + 1) = nI y
theorem pSeen.ag {σ σ' : zS} (h : AG dSeen σ σ') (hp : pSeen σ) : pSeen σ' := by
  obtain ⟨k, h1, h2, h3, h4⟩ := hp
  refine ⟨k, h1, (h 187 0 (by decide)).trans h2, (h 214 46 (by decide)).trans h3, fun i hi => ?_⟩
  rw [h 188 i (by simp [dSeen]), h 189 i (by simp [dSeen]), h 233 (2 * i) (by simp [dSeen]), h 233 (2 * i + 1) (by simp [dSeen])]
  exact h4 i hi
/-- what is kept at the object k is what a row says -/
def SN (k F b : Nat) (r : Nat → Int32) (σ : zS) : Prop := CM (k + 1) F r σ ∧ CB (k + 6) r σ ∧ ∃ t, t ≤ b ∧ WR F t r
theorem SN.ag {k F b : Nat} {r : Nat → Int32} {σ σ' : zS} (h : SN k F b r σ) (hf : ∀ o i, k + 1 ≤ o → o ≤ k + 10 → σ' o i = σ o i) : SN k F b r σ' :=
  ⟨CM.ag h.1 (fun o i q1 q2 => hf o i (by omega) (by omega)), CB.ag h.2.1 (fun _ _ _ => rfl) (fun o i q1 q2 => hf o i (by omega) (by omega)), h.2.2⟩
def dPast (o i : Nat) : Bool := decide ((o = 37 ∧ (i = 0 ∨ i = 2)) ∨ (39 ≤ o ∧ o ≤ 181) ∨ (o = 214 ∧ i = 30) ∨ o = 223)
def pPast (F b : Nat) (σ : zS) : Prop := ∃ s x, s ≤ 12 ∧ x < 13 ∧ σ 37 0 = nI s ∧ σ 37 2 = nI x ∧ σ 214 30 = nI s ∧ ∀ j, j < s → SN (39 + 11 * ((x + 12 - j) % 13)) F b (fun i => σ 223 (288 * (s - 1 - j) + i)) σ
theorem pPast.ag {F b : Nat} {σ σ' : zS} (h : AG dPast σ σ') (hp : pPast F b σ) : pPast F b σ' := by
  obtain ⟨s, x, h1, h2, h3, h4, h5, h6⟩ := hp
  refine ⟨s, x, h1, h2, (h 37 0 (by decide)).trans h3, (h 37 2 (by decide)).trans h4, (h 214 30 (by decide)).trans h5, fun j hj => ?_⟩
  have e : (fun i => σ' 223 (288 * (s - 1 - j) + i)) = (fun i => σ 223 (288 * (s - 1 - j) + i)) := funext fun i => h 223 _ (by simp [dPast])
  rw [e]
  have hm : (x + 12 - j) % 13 < 13 := Nat.mod_lt _ (by decide)
  exact SN.ag (h6 j hj) (fun o i q1 q2 => h o i (by simp [dPast]; omega))
def dKept (o i : Nat) : Bool := decide ((192 ≤ o ∧ o ≤ 213) ∨ (234 ≤ o ∧ o ≤ 236) ∨ (o = 214 ∧ i = 47))
def pKept (F b : Nat) (σ : zS) : Prop := ∃ m, m ≤ F ∧ σ 214 47 = nI m ∧ ∀ j, j < 2 → (σ (192 + 11 * j) 0 = 0 ∧ σ 235 j = 0) ∨ (σ (192 + 11 * j) 0 = 1 ∧ σ 235 j = 1 ∧ ∃ G n, G ≤ F ∧ n ≤ m ∧ (G = F ↔ n = m) ∧ σ (192 + 11 * j) 1 = nI G ∧ σ 236 j = nI n ∧ SN (192 + 11 * j) G b (fun i => σ 234 (288 * j + i)) σ)
theorem pKept.ag {F b : Nat} {σ σ' : zS} (h : AG dKept σ σ') (hp : pKept F b σ) : pKept F b σ' := by
  obtain ⟨m, h1, h2, h3⟩ := hp
  refine ⟨m, h1, (h 214 47 (by decide)).trans h2, fun j hj => ?_⟩
  have e0 : σ' (192 + 11 * j) 0 = σ (192 + 11 * j) 0 := h _ _ (by simp [dKept]; omega)
  have e1 : σ' (192 + 11 * j) 1 = σ (192 + 11 * j) 1 := h _ _ (by simp [dKept]; omega)
  have e2 : σ' 235 j = σ 235 j := h _ _ (by simp [dKept])
  have e3 : σ' 236 j = σ 236 j := h _ _ (by simp [dKept])
  have e4 : (fun i => σ' 234 (288 * j + i)) = (fun i => σ 234 (288 * j + i)) := funext fun i => h 234 _ (by simp [dKept])
  rw [e0, e1, e2, e3, e4]
  rcases h3 j hj with g | ⟨g1, g2, G, n, g3, g4, g5, g6, g7, g8⟩
  · exact Or.inl g
  · exact Or.inr ⟨g1, g2, G, n, g3, g4, g5, g6, g7, SN.ag g8 (fun o i q1 q2 => h o i (by simp [dKept]; omega))⟩
def Inv (b : Nat) (σ : zS) : Prop := ∃ F l W, pWall F σ ∧ pRow F b σ ∧ pRule l σ ∧ pWind W σ ∧ pText σ ∧ pJd σ ∧ pTold σ ∧ pCrew σ ∧ pSeen σ ∧ pPast F b σ ∧ pKept F b σ ∧ σ 214 7 = 0
/-- what calls may leave behind, beside the ROW -/
def scr (o i : Nat) : Bool := decide (o = 4 ∨ o = 6 ∨ (22 ≤ o ∧ o ≤ 31) ∨ (o = 0 ∧ (i = 14 ∨ i = 15)) ∨ o = 191 ∨ (o = 14 ∧ 4 ≤ i ∧ i ≤ 6) ∨ (o = 1 ∧ 2 ≤ i ∧ i ≤ 4) ∨ o = 9 ∨ (o = 8 ∧ i = 1) ∨ (11 ≤ o ∧ o ≤ 13) ∨ (o = 10 ∧ i = 3) ∨ (o = 214 ∧ ((12 ≤ i ∧ i ≤ 17) ∨ (21 ≤ i ∧ i ≤ 28) ∨ i = 33 ∨ i = 35 ∨ i = 36 ∨ i = 38)) ∨ o = 221 ∨ (224 ≤ o ∧ o ≤ 230) ∨ o = 232)
def scrT (o i : Nat) : Bool := scr o i || dTold o i
theorem SN.mono {k F b b' : Nat} {r : Nat → Int32} {σ : zS} (h : SN k F b r σ) (hb : b ≤ b') : SN k F b' r σ := by
  obtain ⟨h1, h2, t, h3, h4⟩ := h
  exact ⟨h1, h2, t, by omega, h4⟩
theorem Inv.mono {b b' : Nat} {σ : zS} (h : Inv b σ) (hb : b ≤ b') : Inv b' σ := by
  obtain ⟨F, l, W, h1, ⟨g1, g2, t, g3, g4⟩, h3, h4, h5, h6, h7, h8, h9, ⟨s, x, k1, k2, k3, k4, k5, k6⟩, ⟨m, m1, m2, m3⟩, h12⟩ := h
  refine ⟨F, l, W, h1, ⟨g1, g2, t, by omega, g4⟩, h3, h4, h5, h6, h7, h8, h9, ⟨s, x, k1, k2, k3, k4, k5, fun j hj => (k6 j hj).mono hb⟩, ⟨m, m1, m2, fun j hj => ?_⟩, h12⟩
  rcases m3 j hj with q | ⟨q1, q2, G, n, q3, q4, q5, q6, q7, q8⟩
  · exact Or.inl q
  · exact Or.inr ⟨q1, q2, G, n, q3, q4, q5, q6, q7, q8.mono hb⟩
theorem Inv.told {b : Nat} {σ σ' : zS} (h : Inv b σ) (hf : Fr scrT σ σ') (ht : pTold σ') : Inv b σ' := by
  obtain ⟨F, l, W, h1, h2, h3, h4, h5, h6, h7, h8, h9, h10, h11, h12⟩ := h
  have fin : ∀ dep : Nat → Nat → Bool, (∀ o i, dep o i = true → scrT o i = false) → AG dep σ σ' := fun dep q => AG.of hf q
  refine ⟨F, l, W, pWall.ag (fin dWall ?_) h1, pRow.ag (fin dRow ?_) h2, pRule.ag (fin dRule ?_) h3, pWind.ag (fin dWind ?_) h4, pText.ag (fin dText ?_) h5, pJd.ag (fin dJd ?_) h6, ht, pCrew.ag (fin dCrew ?_) h8, pSeen.ag (fin dSeen ?_) h9, pPast.ag (fin dPast ?_) h10, pKept.ag (fin dKept ?_) h11, (hf 214 7 (by decide)).trans h12⟩
  all_goals
    intro o i q
    simp only [dWall, dRow, dRule, dWind, dText, dJd, dCrew, dSeen, dPast, dKept, scrT, scr, dTold, decide_eq_true_eq, decide_eq_false_iff_not, Bool.or_eq_false_iff] at q ⊢
    omega
theorem Inv.sc {b : Nat} {σ σ' : zS} (h : Inv b σ) (hf : Fr scr σ σ') : Inv b σ' := by
  have h2 := h
  obtain ⟨F, l, W, -, -, -, -, -, -, h7, -⟩ := h2
  refine Inv.told h (Fr.mono hf (fun o i q => by
    unfold scrT at q
    rw [Bool.or_eq_false_iff] at q
    exact q.1)) (pTold.ag (AG.of hf (fun o i q => ?_)) h7)
  simp only [dTold, scr, decide_eq_true_eq, decide_eq_false_iff_not] at q ⊢
  omega
