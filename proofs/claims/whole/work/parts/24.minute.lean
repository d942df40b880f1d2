/-! a minute, as numbers in a row: 0.. tired, 9.. how often, 18.. due, 27.. cause, 36.. meant, 45 away, 46 now, 47 yawns, 48.. the book -/
def bc (x : Int32) : Int32 :=
  let a := x - (zushr x 1 &&& 1431655765)
  let b := (a &&& 858993459) + (zushr a 2 &&& 858993459)
  let c := (b + zushr b 4) &&& 252645135
  let e := c + zushr c 8
  (e + zushr e 16) &&& 63
theorem s_bitCount {d : Nat} (x : Int32) (σ : zS) (Q : Int32 → zS → Prop) : ZC (d + 1) 0 [.int x] σ Q = Q (bc x) σ :=
  s_of (fun Q h => k_0_0 h) Q
def vv (t y k n w m i j x : Int32) : Nat → Int32 := fun q => match q with
  | 0 => t
  | 1 => y
  | 2 => k
  | 3 => n
  | 4 => w
  | 5 => m
  | 6 => i
  | 7 => j
  | 8 => x
  | _ => 0
def mx0 (x : Int32) : Int32 := if 0 < x then x else 0
def mn9 (x : Int32) : Int32 := if x < 9 then x else 9
/-- the first from k on, of n, with p; -1: none -/
def ff (p : Nat → Bool) : Nat → Nat → Int32
  | 0, _ => -1
  | n + 1, k => if p k then nI k else ff p n (k + 1)
theorem ff_yes {p : Nat → Bool} {F k : Nat} (hk : k < F) (hp : p k = true) : ff p (F - k) k = nI k := by
  rw [show F - k = (F - k - 1) + 1 by omega]
  unfold ff
  rw [if_pos hp]
theorem ff_no {p : Nat → Bool} {F k : Nat} (hk : k < F) (hp : p k = false) : ff p (F - k) k = ff p (F - (k + 1)) (k + 1) := by
  rw [show F - k = (F - k - 1) + 1 by omega]
  conv => lhs; unfold ff
  rw [hp, show F - k - 1 = F - (k + 1) by omega]
  rfl
theorem ff_end {p : Nat → Bool} {F : Nat} : ff p (F - F) F = -1 := by
  rw [Nat.sub_self]; rfl
theorem ff_cong {p q : Nat → Bool} : ∀ n k, (∀ j, k ≤ j → j < k + n → p j = q j) → ff p n k = ff q n k := by
  intro n
  induction n with
  | zero => intro k _; rfl
  | succ n ih =>
    intro k h
    unfold ff
    rw [h k (Nat.le_refl k) (by omega), ih (k + 1) (fun j h1 h2 => h j (by omega) (by omega))]
theorem ff_cases {p : Nat → Bool} : ∀ n k, (ff p n k = -1 ∧ ∀ j, k ≤ j → j < k + n → p j = false) ∨ ∃ j, k ≤ j ∧ j < k + n ∧ p j = true ∧ ff p n k = nI j ∧ ∀ i, k ≤ i → i < j → p i = false := by
  intro n
  induction n with
  | zero => intro k; exact Or.inl ⟨rfl, fun j h1 h2 => by omega⟩
  | succ n ih =>
    intro k
    unfold ff
    by_cases hp : p k = true
    · rw [if_pos hp]
      exact Or.inr ⟨k, Nat.le_refl k, by omega, hp, rfl, fun i h1 h2 => by omega⟩
    · rw [if_neg hp]
      have hp' : p k = false := by simpa using hp
      rcases ih (k + 1) with ⟨h1, h2⟩ | ⟨j, h1, h2, h3, h4, h5⟩
      · refine Or.inl ⟨h1, fun j h3 h4 => ?_⟩
        by_cases hj : j = k
        · rw [hj]; exact hp'
        · exact h2 j (by omega) (by omega)
      · refine Or.inr ⟨j, by omega, by omega, h3, h4, fun i h6 h7 => ?_⟩
        by_cases hj : i = k
        · rw [hj]; exact hp'
        · exact h5 i (by omega) h7
/-- faces, delays, sights, the rule's meaning, how many winds, winds -/
abbrev MC : Type := Nat × (Nat → Int32) × (Nat → Int32) × ((Nat → Int32) → Bool) × Nat × (Nat → Int32)
def wd (W : Nat) (wr : Nat → Int32) (t : Nat) : Int32 := if W = 0 then 0 else wr (t % W)
def yw (fr : Bool) (r : Nat → Int32) (f : Nat) : Bool := !zb (r 45) f && ((!fr && decide (r f = 9) && decide (r (18 + f) = -1)) || decide (r (18 + f) = r 46))
def mw (fr : Bool) (r : Nat → Int32) (f : Nat) : Bool := yw fr r f && decide (r (36 + f) = 1)
def bkw (m : Int32) (q : Nat → Int32) (f : Nat) : Nat → Int32 :=
  let k := 48 + 4 * ((q 47).toNatClampNeg % 60)
  upd (upd (upd (upd (upd q k m) (k + 1) (nI f)) (k + 2) (q (27 + f))) (k + 3) (q (36 + f))) 47 (q 47 + 1)
def gyo (q : Nat → Int32) (f : Nat) : Nat → Int32 := upd q (9 + f) (q (9 + f) + 1)
def gyt (fr : Bool) (q : Nat → Int32) (f : Nat) : Nat → Int32 := if fr then q else upd q f (mx0 (q f - 1))
def gcl (q : Nat → Int32) (f : Nat) : Nat → Int32 := upd (upd (upd q (18 + f) (-1)) (27 + f) (-1)) (36 + f) 0
def gy (fr : Bool) (m : Int32) (q : Nat → Int32) (f : Nat) : Nat → Int32 := gcl (gyt fr (gyo (bkw m q f) f) f) f
/-- behind the yawns of the first k faces -/
def ry (fr : Bool) (r : Nat → Int32) : Nat → Nat → Int32
  | 0 => r
  | k + 1 => if yw fr r k then gy fr (r 46) (ry fr r k) k else ry fr r k
def ct (rv : (Nat → Int32) → Bool) (w : Int32) (q : Nat → Int32) (seen ms : Int32) (f o : Nat) : Bool := zb seen o && rv (vv (q f) (q o) (q (9 + f)) (bc seen) w (q 46) (nI f) (nI o) (b2i (zb ms o)))
/-- from whom a face catches one -/
def cz (c : MC) (q : Nat → Int32) (ys ms : Int32) (f : Nat) : Int32 := ff (ct c.2.2.2.1 (wd c.2.2.2.2.1 c.2.2.2.2.2 (q 46).toNatClampNeg) q (sg (nI c.1) c.2.2.1 f &&& ys) ms f) c.1 0
def cb (c : MC) (q : Nat → Int32) (ys ms : Int32) (f : Nat) : Bool := !zb (q 45 ||| ys) f && decide (q (18 + f) = -1) && !decide (cz c q ys ms f = -1)
/-- behind the catches of the first k faces -/
def rc (c : MC) (q : Nat → Int32) (ys ms : Int32) : Nat → Nat → Int32
  | 0 => q
  | k + 1 => if cb c (rc c q ys ms k) ys ms k then upd (upd (upd (rc c q ys ms k) (18 + k) (q 46 + c.2.1 k)) (27 + k) (cz c (rc c q ys ms k) ys ms k)) (36 + k) 0 else rc c q ys ms k
def rt (q : Nat → Int32) (k : Nat) : Nat → Int32 := fun i => if i < k then mn9 (q i + 1) else q i
def ysS (c : MC) (fr : Bool) (r : Nat → Int32) : Int32 := bs (yw fr r) c.1
def msS (c : MC) (fr : Bool) (r : Nat → Int32) : Int32 := bs (mw fr r) c.1
def r3 (c : MC) (fr : Bool) (r : Nat → Int32) : Nat → Int32 := rc c (ry fr r c.1) (ysS c fr r) (msS c fr r) c.1
def cbS (c : MC) (fr : Bool) (r : Nat → Int32) : Int32 := bs (fun f => cb c (rc c (ry fr r c.1) (ysS c fr r) (msS c fr r) f) (ysS c fr r) (msS c fr r) f) c.1
/-- a minute -/
def ms (c : MC) (fr : Bool) (r : Nat → Int32) : Nat → Int32 :=
  upd (if zrem (r 46 + 1) 10 = 0 ∧ fr = false then rt (r3 c fr r) c.1 else r3 c fr r) 46 (r 46 + 1)
/-! how these rows look, place by place -/
theorem bkw_lt {m : Int32} {q : Nat → Int32} {f i : Nat} (h : i < 47) : bkw m q f i = q i := by
  unfold bkw
  try dsimp only
  rw [upd_ne (by omega), upd_ne (by omega), upd_ne (by omega), upd_ne (by omega), upd_ne (by omega)]
theorem gyt_at (fr : Bool) (q : Nat → Int32) (f i : Nat) : gyt fr q f i = if i = f ∧ fr = false then mx0 (q f - 1) else q i := by
  unfold gyt
  cases fr
  · simp [upd]
  · simp
theorem gy_at {fr : Bool} {m : Int32} {q : Nat → Int32} {f i : Nat} (hf : f < 9) (hi : i < 47) : gy fr m q f i = if i = 18 + f ∨ i = 27 + f then -1 else if i = 36 + f then 0 else if i = 9 + f then q i + 1 else if i = f ∧ fr = false then mx0 (q f - 1) else q i := by
  unfold gy gcl
  simp only [upd_app, gyt_at, gyo]
  rw [bkw_lt hi, bkw_lt (i := f) (by omega), bkw_lt (i := 9 + f) (by omega)]
  by_cases h1 : i = 18 + f
  · subst h1; simp
  · by_cases h2 : i = 27 + f
    · subst h2; simp
    · by_cases h3 : i = 36 + f
      · subst h3; simp
      · by_cases h4 : i = 9 + f
        · subst h4; simp
        · by_cases h5 : i = f
          · subst h5; simp [h1, h2, h3, h4]
          · simp [h1, h2, h3, h4, h5]
theorem gy_47 {fr : Bool} {m : Int32} {q : Nat → Int32} {f : Nat} (hf : f < 9) : gy fr m q f 47 = q 47 + 1 := by
  unfold gy gcl gyo bkw
  try dsimp only
  rw [upd_ne (by omega), upd_ne (by omega), upd_ne (by omega), gyt_at, if_neg (by omega), upd_ne (by omega), upd_eq]
theorem gy_bk {fr : Bool} {m : Int32} {q : Nat → Int32} {f i : Nat} (hf : f < 9) (hi : 47 < i) : gy fr m q f i = bkw m q f i := by
  unfold gy gcl gyo
  rw [upd_ne (by omega), upd_ne (by omega), upd_ne (by omega), gyt_at, if_neg (by omega), upd_ne (by omega)]
/-- faces that the yawns so far didn't reach are as they were -/
theorem ry_old {fr : Bool} {r : Nat → Int32} : ∀ k, k ≤ 9 → ∀ f, k ≤ f → f < 9 → ry fr r k f = r f ∧ ry fr r k (9 + f) = r (9 + f) ∧ ry fr r k (18 + f) = r (18 + f) ∧ ry fr r k (27 + f) = r (27 + f) ∧ ry fr r k (36 + f) = r (36 + f) := by
  intro k
  induction k with
  | zero => intro _ f _ _; exact ⟨rfl, rfl, rfl, rfl, rfl⟩
  | succ k ih =>
    intro hk f hf h9
    have h := ih (by omega) f (by omega) h9
    unfold ry
    split
    · rw [gy_at (by omega) (by omega), gy_at (by omega) (by omega), gy_at (by omega) (by omega), gy_at (by omega) (by omega), gy_at (by omega) (by omega)]
      refine ⟨?_, ?_, ?_, ?_, ?_⟩
      · rw [if_neg (by omega), if_neg (by omega), if_neg (by omega), if_neg (by omega)]; exact h.1
      · rw [if_neg (by omega), if_neg (by omega), if_neg (by omega), if_neg (by omega)]; exact h.2.1
      · rw [if_neg (by omega), if_neg (by omega), if_neg (by omega), if_neg (by omega)]; exact h.2.2.1
      · rw [if_neg (by omega), if_neg (by omega), if_neg (by omega), if_neg (by omega)]; exact h.2.2.2.1
      · rw [if_neg (by omega), if_neg (by omega), if_neg (by omega), if_neg (by omega)]; exact h.2.2.2.2
    · exact h
theorem ry_hi {fr : Bool} {r : Nat → Int32} : ∀ k, k ≤ 9 → ry fr r k 45 = r 45 ∧ ry fr r k 46 = r 46 := by
  intro k
  induction k with
  | zero => intro _; exact ⟨rfl, rfl⟩
  | succ k ih =>
    intro hk
    have h := ih (by omega)
    unfold ry
    split
    · rw [gy_at (by omega) (by omega), gy_at (by omega) (by omega)]
      rw [if_neg (by omega), if_neg (by omega), if_neg (by omega), if_neg (by omega), if_neg (by omega), if_neg (by omega), if_neg (by omega), if_neg (by omega)]
      exact h
    · exact h
