/-! the rule as a text: signs as numbers (999: none, or one that is no plain sign), read into parts -/
abbrev PR : Type := Bool × Nat × List Int32
def vof (c : Nat) : Nat := if c = 116 then 0 else if c = 121 then 1 else if c = 107 then 2 else if c = 110 then 3 else if c = 119 then 4 else if c = 109 then 5 else if c = 105 then 6 else if c = 106 then 7 else if c = 120 then 8 else 99
def pNum (C : Nat → Nat) : Nat → Nat → Nat → Nat × Nat
  | 0, a, v => (a, v)
  | n + 1, a, v => if 48 ≤ C a ∧ C a ≤ 57 then pNum C n (a + 1) (10 * v + (C a - 48)) else (a, v)
def pThing (C : Nat → Nat) (sub : Nat → PR) (ok : Bool) (a : Nat) : PR :=
  if C a = 40 then (if ok = true then (if (sub (a + 1)).1 = true then (if C (sub (a + 1)).2.1 = 41 then (true, (sub (a + 1)).2.1 + 1, (sub (a + 1)).2.2) else (false, (sub (a + 1)).2.1, [])) else (false, (sub (a + 1)).2.1, [])) else (false, a, []))
  else if 48 ≤ C a ∧ C a ≤ 57 then (true, (pNum C 2 (a + 1) (C a - 48)).1, [nI (pNum C 2 (a + 1) (C a - 48)).2])
  else if vof (C a) = 99 then (false, a, []) else (true, a + 1, [nI (1000 + vof (C a))])
/-- behind the signs - from a on -/
def mns (C : Nat → Nat) : Nat → Nat → Nat
  | 0, a => a
  | n + 1, a => if C a = 45 then mns C n (a + 1) else a
def pSgn (n : Nat) (r : PR) : PR := if r.1 = true then (true, r.2.1, r.2.2 ++ (if n % 2 = 1 then [-126] else [])) else (false, r.2.1, [])
def pSigned (C : Nat → Nat) (sub : Nat → PR) (ok : Bool) (a : Nat) : PR := pSgn (mns C 40 a - a) (pThing C sub ok (mns C 40 a))
def pRest (C : Nat → Nat) (p : Nat → PR) (o1 o2 : Nat) : Nat → Nat → List Int32 → PR
  | 0, a, l => (true, a, l)
  | n + 1, a, l => if C a = o1 ∨ C a = o2 then (if (p (a + 1)).1 = true then pRest C p o1 o2 n (p (a + 1)).2.1 (l ++ (p (a + 1)).2.2 ++ [-(nI (C a))]) else (false, (p (a + 1)).2.1, [])) else (true, a, l)
def pLoop (C : Nat → Nat) (p : Nat → PR) (o1 o2 : Nat) (a : Nat) : PR := if (p a).1 = true then pRest C p o1 o2 40 (p a).2.1 (p a).2.2 else (false, (p a).2.1, [])
def pProd (C : Nat → Nat) (sub : Nat → PR) (ok : Bool) (a : Nat) : PR := pLoop C (pSigned C sub ok) 42 47 a
def pSum (C : Nat → Nat) (sub : Nat → PR) (ok : Bool) (a : Nat) : PR := pLoop C (pProd C sub ok) 43 45 a
def pCmp (C : Nat → Nat) (p : Nat → PR) (a : Nat) : PR :=
  if (p a).1 = true then (if C (p a).2.1 = 60 ∨ C (p a).2.1 = 62 ∨ C (p a).2.1 = 61 then (if (p ((p a).2.1 + 1)).1 = true then (true, (p ((p a).2.1 + 1)).2.1, (p a).2.2 ++ (p ((p a).2.1 + 1)).2.2 ++ [-(nI (C (p a).2.1))]) else (false, (p ((p a).2.1 + 1)).2.1, [])) else p a) else (false, (p a).2.1, [])
def pE (C : Nat → Nat) : Nat → Nat → PR
  | 0, a => pCmp C (pSum C (fun _ => (false, 0, [])) false) a
  | n + 1, a => pCmp C (pSum C (pE C n) true) a
/-! what parts come to -/
def jn (c : Int32) (a b : Int32) : Int32 := if c = 42 then a * b else if c = 43 then a + b else if c = 45 then a - b else if c = 60 then (if a < b then 1 else 0) else if c = 61 then (if a = b then 1 else 0) else if c = 62 then (if b < a then 1 else 0) else if b = 0 then 0 else a / b
def ex1 (v : Nat → Int32) (p : Int32) (st : List Int32) : List Int32 :=
  if p = -126 then (match st with
    | x :: t => (-x) :: t
    | [] => [])
  else if p < 0 then (match st with
    | y :: x :: t => jn (-p) x y :: t
    | s => s)
  else (if p - 1000 < 0 then p else if p - 1000 < 9 then v (p - 1000).toNatClampNeg else p) :: st
def ex (v : Nat → Int32) : List Int32 → List Int32 → List Int32
  | [], st => st
  | p :: r, st => ex v r (ex1 v p st)
theorem ex_app (v : Nat → Int32) (l1 l2 : List Int32) : ∀ st, ex v (l1 ++ l2) st = ex v l2 (ex v l1 st) := by
  induction l1 with
  | nil => intro st; rfl
  | cons p r ih => intro st; exact ih _
/-- the parts come to one number -/
def One (l : List Int32) : Prop := ∀ v : Nat → Int32, ∃ w, ∀ st, ex v l st = w :: st
def Gd (L a : Nat) (r : PR) : Prop := a ≤ r.2.1 ∧ r.2.1 ≤ L ∧ (r.1 = true → a < r.2.1 ∧ r.2.2.length + a ≤ r.2.1 ∧ One r.2.2)
section PARSE
variable {C : Nat → Nat} {L : Nat}
theorem pNum_le (hC : ∀ a, L ≤ a → C a = 999) : ∀ n a v, a ≤ L → a ≤ (pNum C n a v).1 ∧ (pNum C n a v).1 ≤ L := by
  intro n
  induction n with
  | zero => intro a v h; exact ⟨Nat.le_refl a, h⟩
  | succ n ih =>
    intro a v h
    unfold pNum
    split
    · rename_i q
      have : a < L := by
        rcases Nat.lt_or_ge a L with h1 | h1
        · exact h1
        · have := hC a h1; omega
      have := ih (a + 1) (10 * v + (C a - 48)) (by omega)
      omega
    · exact ⟨Nat.le_refl a, h⟩
theorem pNum_v : ∀ n a v, (pNum C n a v).2 < (v + 1) * 10 ^ n := by
  intro n
  induction n with
  | zero => intro a v; unfold pNum; omega
  | succ n ih =>
    intro a v
    unfold pNum
    split
    · rename_i q
      refine Nat.lt_of_lt_of_le (ih _ _) ?_
      rw [Nat.pow_succ, Nat.mul_comm (10 ^ n) 10, ← Nat.mul_assoc]
      exact Nat.mul_le_mul_right _ (by omega)
    · have h1 : 1 ≤ 10 ^ (n + 1) := Nat.one_le_pow _ _ (by decide)
      calc v < v + 1 := Nat.lt_succ_self v
        _ = (v + 1) * 1 := (Nat.mul_one _).symm
        _ ≤ (v + 1) * 10 ^ (n + 1) := Nat.mul_le_mul_left _ h1
theorem n1000 : ∀ k, k < 9 → ¬ (nI (1000 + k) = -126) ∧ ¬ (nI (1000 + k) < 0) ∧ ¬ (nI (1000 + k) - 1000 < 0) ∧ nI (1000 + k) - 1000 < 9 ∧ (nI (1000 + k) - 1000).toNatClampNeg = k := by decide +kernel
theorem n999 : ∀ k, k < 1000 → ¬ (nI k = -126) ∧ ¬ (nI k < 0) ∧ nI k - 1000 < 0 := by decide +kernel
theorem vof_cases (c : Nat) : vof c = 99 ∨ vof c < 9 := by
  unfold vof
  repeat' split
  all_goals omega
theorem One_num {k : Nat} (h : k < 1000) : One [nI k] := by
  intro v
  refine ⟨nI k, fun st => ?_⟩
  obtain ⟨h1, h2, h3⟩ := n999 k h
  simp only [ex, ex1, h1, h2, h3, ↓reduceIte]
theorem One_var {k : Nat} (h : k < 9) : One [nI (1000 + k)] := by
  intro v
  refine ⟨v k, fun st => ?_⟩
  obtain ⟨h1, h2, h3, h4, h5⟩ := n1000 k h
  simp only [ex, ex1, h1, h2, h3, h4, h5, ↓reduceIte]
theorem One_neg {l : List Int32} (h : One l) : One (l ++ [-126]) := by
  intro v
  obtain ⟨w, hw⟩ := h v
  refine ⟨-w, fun st => ?_⟩
  rw [ex_app, hw]
  simp only [ex, ex1, ↓reduceIte]
theorem opn : ∀ c, c < 128 → c ≠ 126 → c ≠ 0 → ¬ (-(nI c) = -126) ∧ -(nI c) < 0 := by decide +kernel
theorem One_bin {l1 l2 : List Int32} (h1 : One l1) (h2 : One l2) {c : Nat} (hc : c < 128) (hc2 : c ≠ 126) (hc3 : c ≠ 0) : One (l1 ++ l2 ++ [-(nI c)]) := by
  intro v
  obtain ⟨w1, hw1⟩ := h1 v
  obtain ⟨w2, hw2⟩ := h2 v
  obtain ⟨g1, g2⟩ := opn c hc hc2 hc3
  refine ⟨jn (-(-(nI c))) w1 w2, fun st => ?_⟩
  rw [ex_app, ex_app, hw1, hw2]
  simp only [ex, ex1, g1, g2, ↓reduceIte]
theorem inL (hC : ∀ a, L ≤ a → C a = 999) {a : Nat} (h : C a ≠ 999) : a < L := by
  rcases Nat.lt_or_ge a L with h1 | h1
  · exact h1
  · exact absurd (hC a h1) h
theorem pThing_gd (hC : ∀ a, L ≤ a → C a = 999) {sub : Nat → PR} {ok : Bool} (hs : ok = true → ∀ a, a ≤ L → Gd L a (sub a)) {a : Nat} (ha : a ≤ L) : Gd L a (pThing C sub ok a) := by
  unfold pThing
  by_cases h1 : C a = 40
  · have haL := inL hC (a := a) (by omega)
    rw [if_pos h1]
    cases hok : ok
    · rw [if_neg (by decide)]; exact ⟨Nat.le_refl a, ha, fun q => by cases q⟩
    · rw [if_pos rfl]
      obtain ⟨g1, g2, g3⟩ := hs hok (a + 1) (by omega)
      split
      · rename_i q
        obtain ⟨g4, g5, g6⟩ := g3 q
        split
        · rename_i q2
          have := inL hC (a := (sub (a + 1)).2.1) (by omega)
          exact ⟨by show a ≤ _ + 1; omega, by show _ + 1 ≤ L; omega, fun _ => ⟨by show a < _ + 1; omega, by show (sub (a + 1)).2.2.length + a ≤ (sub (a + 1)).2.1 + 1; omega, g6⟩⟩
        · exact ⟨by show a ≤ (sub (a + 1)).2.1; omega, g2, fun q => by cases q⟩
      · exact ⟨by show a ≤ (sub (a + 1)).2.1; omega, g2, fun q => by cases q⟩
  · rw [if_neg h1]
    split
    · rename_i q
      have haL := inL hC (a := a) (by omega)
      obtain ⟨g1, g2⟩ := pNum_le hC 2 (a + 1) (C a - 48) (by omega)
      have g3 := pNum_v (C := C) 2 (a + 1) (C a - 48)
      refine ⟨by show a ≤ (pNum C 2 (a + 1) (C a - 48)).1; omega, g2, fun _ => ⟨by show a < (pNum C 2 (a + 1) (C a - 48)).1; omega, ?_, One_num ?_⟩⟩
      · show 1 + a ≤ (pNum C 2 (a + 1) (C a - 48)).1; omega
      · refine Nat.lt_of_lt_of_le g3 ?_
        have : (C a - 48 + 1) * 10 ^ 2 ≤ 10 * 10 ^ 2 := Nat.mul_le_mul_right _ (by omega)
        omega
    · split
      · exact ⟨Nat.le_refl a, ha, fun q => by cases q⟩
      · rename_i q2
        have haL := inL hC (a := a) (fun h => q2 (by rw [h]; rfl))
        exact ⟨by show a ≤ a + 1; omega, by show a + 1 ≤ L; omega, fun _ => ⟨by show a < a + 1; omega, by show 1 + a ≤ a + 1; omega, One_var (by have := vof_cases (C a); omega)⟩⟩
theorem mns_le (hC : ∀ a, L ≤ a → C a = 999) : ∀ n a, a ≤ L → a ≤ mns C n a ∧ mns C n a ≤ L := by
  intro n
  induction n with
  | zero => intro a h; exact ⟨Nat.le_refl a, h⟩
  | succ n ih =>
    intro a h
    unfold mns
    split
    · have := inL hC (a := a) (by omega)
      have := ih (a + 1) (by omega)
      omega
    · exact ⟨Nat.le_refl a, h⟩
theorem pSigned_gd (hC : ∀ a, L ≤ a → C a = 999) {sub : Nat → PR} {ok : Bool} (hs : ok = true → ∀ a, a ≤ L → Gd L a (sub a)) {a : Nat} (ha : a ≤ L) : Gd L a (pSigned C sub ok a) := by
  obtain ⟨m1, m2⟩ := mns_le hC 40 a ha
  obtain ⟨g1, g2, g3⟩ := pThing_gd hC hs m2
  unfold pSigned pSgn
  generalize pThing C sub ok (mns C 40 a) = r at g1 g2 g3
  split
  · rename_i q
    obtain ⟨g4, g5, g6⟩ := g3 q
    refine ⟨by show a ≤ r.2.1; omega, g2, fun _ => ⟨by show a < r.2.1; omega, ?_, ?_⟩⟩
    · by_cases hq : (mns C 40 a - a) % 2 = 1
      · rw [if_pos hq]
        show (r.2.2 ++ [-126]).length + a ≤ r.2.1
        rw [List.length_append]
        show r.2.2.length + 1 + a ≤ r.2.1
        omega
      · rw [if_neg hq]
        show (r.2.2 ++ []).length + a ≤ r.2.1
        rw [List.append_nil]; omega
    · split
      · exact One_neg g6
      · show One (r.2.2 ++ [])
        rw [List.append_nil]; exact g6
  · exact ⟨by show a ≤ r.2.1; omega, g2, fun q => by cases q⟩
theorem pRest_gd (hC : ∀ a, L ≤ a → C a = 999) {p : Nat → PR} {o1 o2 : Nat} (h1 : o1 < 100 ∧ o1 ≠ 0) (h2 : o2 < 100 ∧ o2 ≠ 0) (hp : ∀ a, a ≤ L → Gd L a (p a)) : ∀ n a l a0, a ≤ L → a0 < a → l.length + a0 ≤ a → One l → Gd L a0 (pRest C p o1 o2 n a l) := by
  intro n
  induction n with
  | zero => intro a l a0 ha h0 hl ho; exact ⟨by show a0 ≤ a; omega, ha, fun _ => ⟨h0, hl, ho⟩⟩
  | succ n ih =>
    intro a l a0 ha h0 hl ho
    unfold pRest
    split
    · rename_i q
      have haL := inL hC (a := a) (by omega)
      obtain ⟨g1, g2, g3⟩ := hp (a + 1) (by omega)
      split
      · rename_i q2
        obtain ⟨g4, g5, g6⟩ := g3 q2
        refine ih _ _ a0 g2 (by omega) ?_ (One_bin ho g6 (by omega) (by omega) (by omega))
        rw [List.length_append, List.length_append]
        show l.length + (p (a + 1)).2.2.length + 1 + a0 ≤ (p (a + 1)).2.1
        omega
      · exact ⟨by show a0 ≤ (p (a + 1)).2.1; omega, g2, fun q => by cases q⟩
    · exact ⟨by show a0 ≤ a; omega, ha, fun _ => ⟨h0, hl, ho⟩⟩
theorem pLoop_gd (hC : ∀ a, L ≤ a → C a = 999) {p : Nat → PR} {o1 o2 : Nat} (h1 : o1 < 100 ∧ o1 ≠ 0) (h2 : o2 < 100 ∧ o2 ≠ 0) (hp : ∀ a, a ≤ L → Gd L a (p a)) {a : Nat} (ha : a ≤ L) : Gd L a (pLoop C p o1 o2 a) := by
  unfold pLoop
  obtain ⟨g1, g2, g3⟩ := hp a ha
  split
  · rename_i q
    obtain ⟨g4, g5, g6⟩ := g3 q
    exact pRest_gd hC h1 h2 hp 40 _ _ a g2 g4 g5 g6
  · exact ⟨g1, g2, fun q => by cases q⟩
theorem pCmp_gd (hC : ∀ a, L ≤ a → C a = 999) {p : Nat → PR} (hp : ∀ a, a ≤ L → Gd L a (p a)) {a : Nat} (ha : a ≤ L) : Gd L a (pCmp C p a) := by
  unfold pCmp
  obtain ⟨g1, g2, g3⟩ := hp a ha
  by_cases q : (p a).1 = true
  · rw [if_pos q]
    obtain ⟨g4, g5, g6⟩ := g3 q
    by_cases q2 : C (p a).2.1 = 60 ∨ C (p a).2.1 = 62 ∨ C (p a).2.1 = 61
    · rw [if_pos q2]
      have haL := inL hC (a := (p a).2.1) (by omega)
      obtain ⟨k1, k2, k3⟩ := hp ((p a).2.1 + 1) (by omega)
      split
      · rename_i q3
        obtain ⟨k4, k5, k6⟩ := k3 q3
        refine ⟨by show a ≤ (p ((p a).2.1 + 1)).2.1; omega, k2, fun _ => ⟨by show a < (p ((p a).2.1 + 1)).2.1; omega, ?_, One_bin g6 k6 (by omega) (by omega) (by omega)⟩⟩
        show ((p a).2.2 ++ (p ((p a).2.1 + 1)).2.2 ++ [-(nI (C (p a).2.1))]).length + a ≤ (p ((p a).2.1 + 1)).2.1
        rw [List.length_append, List.length_append]
        show (p a).2.2.length + (p ((p a).2.1 + 1)).2.2.length + 1 + a ≤ (p ((p a).2.1 + 1)).2.1
        omega
      · exact ⟨by show a ≤ (p ((p a).2.1 + 1)).2.1; omega, k2, fun q => by cases q⟩
    · rw [if_neg q2]; exact ⟨g1, g2, g3⟩
  · rw [if_neg q]; exact ⟨g1, g2, fun q => by cases q⟩
theorem pE_gd (hC : ∀ a, L ≤ a → C a = 999) : ∀ n a, a ≤ L → Gd L a (pE C n a) := by
  intro n
  have key : ∀ (sub : Nat → PR) (ok : Bool), (ok = true → ∀ a, a ≤ L → Gd L a (sub a)) → ∀ a, a ≤ L → Gd L a (pCmp C (pSum C sub ok) a) := fun sub ok hs a ha =>
    pCmp_gd hC (fun a ha => pLoop_gd hC (by decide) (by decide) (fun a ha => pLoop_gd hC (by decide) (by decide) (fun a ha => pSigned_gd hC hs ha) ha) ha) ha
  induction n with
  | zero => intro a ha; exact key _ false (fun q => by cases q) a ha
  | succ n ih => intro a ha; exact key _ true (fun _ => ih) a ha
end PARSE
