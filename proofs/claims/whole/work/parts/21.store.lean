/-! stores as rows put on objects; loops over faces -/
theorem zput_app (σ : zS) (o : Nat) (f : Nat → Int32) (o' : Nat) : zput σ o f o' = if o' = o then f else σ o' := rfl
theorem zup_eq (σ : zS) (o i : Nat) (v : Int32) : zup σ o i v = zput σ o (upd (σ o) i v) := rfl
theorem upd_app (f : Nat → Int32) (k : Nat) (x : Int32) (j : Nat) : upd f k x j = if j = k then x else f j := rfl
theorem zput_twice (σ : zS) (o : Nat) (f g : Nat → Int32) : zput (zput σ o f) o g = zput σ o g := by
  funext o'
  simp only [zput]
  split <;> rfl
theorem zput_comm (σ : zS) {o o' : Nat} (h : o < o') (f g : Nat → Int32) : zput (zput σ o' f) o g = zput (zput σ o g) o' f := by
  funext q
  simp only [zput]
  by_cases h1 : q = o
  · subst h1
    rw [if_pos rfl, if_neg (by omega), if_pos rfl]
  · rw [if_neg h1, if_neg h1]
theorem zput_self (σ : zS) (o : Nat) : zput σ o (σ o) = σ := by
  funext q
  simp only [zput]
  split
  · rename_i h; rw [h]
  · rfl
theorem upd_same (f : Nat → Int32) (k : Nat) (x y : Int32) : upd (upd f k x) k y = upd f k y := by
  funext q
  simp only [upd]
  split <;> rfl
theorem upd_self (f : Nat → Int32) (k : Nat) : upd f k (f k) = f := by
  funext q
  simp only [upd]
  split
  · rename_i h; rw [h]
  · rfl
/-- a store that differs from another at most where p says -/
def Fr (p : Nat → Nat → Bool) (σ σ' : zS) : Prop := ∀ o i, p o i = false → σ' o i = σ o i
theorem Fr.rf {p : Nat → Nat → Bool} {σ : zS} : Fr p σ σ := fun _ _ _ => rfl
theorem Fr.tr {p : Nat → Nat → Bool} {σ σ' σ'' : zS} (h : Fr p σ σ') (h2 : Fr p σ' σ'') : Fr p σ σ'' := fun o i q => (h2 o i q).trans (h o i q)
theorem Fr.mono {p q : Nat → Nat → Bool} {σ σ' : zS} (h : Fr p σ σ') (hpq : ∀ o i, q o i = false → p o i = false) : Fr q σ σ' := fun o i k => h o i (hpq o i k)
theorem Fr.put {p : Nat → Nat → Bool} {σ : zS} {o : Nat} {f : Nat → Int32} (h : ∀ i, p o i = false → f i = σ o i) : Fr p σ (zput σ o f) := by
  intro o' i q
  simp only [zput]
  split
  · rename_i e; rw [e] at q ⊢; exact h i q
  · rfl
theorem Fr.up {p : Nat → Nat → Bool} {σ : zS} {o k : Nat} {v : Int32} (h : p o k = true) : Fr p σ (zup σ o k v) := by
  refine Fr.put (fun i q => ?_)
  simp only [upd]
  split
  · rename_i e; rw [e, h] at q; cases q
  · rfl
/-- loops that count up -/
theorem z_for {P : Nat → Prop} {F : Nat} (h : ∀ k, k < F → P (k + 1) → P k) : P F → P 0 := by
  intro hF
  have : ∀ n k, k + n = F → P k := by
    intro n
    induction n with
    | zero => intro k hk; rw [show k = F by omega]; exact hF
    | succ n ih => intro k hk; exact h k (by omega) (ih (k + 1) (by omega))
  exact this F 0 (by omega)
theorem z_forI {P I : Nat → Prop} {F : Nat} (h : ∀ k, k < F → I k → (I (k + 1) → P (k + 1)) → P k) (hF : I F → P F) : I 0 → P 0 := by
  have : ∀ n k, k + n = F → I k → P k := by
    intro n
    induction n with
    | zero => intro k hk; rw [show k = F by omega]; exact hF
    | succ n ih => intro k hk hi; exact h k (by omega) hi (ih (k + 1) (by omega))
  exact this F 0 (by omega)
theorem z_fork {P I : Nat → Prop} {F : Nat} (h : ∀ k, k < F → I k → (I (k + 1) → P (k + 1)) → P k) (hF : I F → P F) : ∀ k, k ≤ F → I k → P k := by
  have : ∀ n k, k + n = F → I k → P k := by
    intro n
    induction n with
    | zero => intro k hk; rw [show k = F by omega]; exact hF
    | succ n ih => intro k hk hi; exact h k (by omega) hi (ih (k + 1) (by omega))
  exact fun k hk => this (F - k) k (by omega)
/-- numbers -/
theorem zlit (n : Nat) : (OfNat.ofNat n : Int32) = nI n := rfl
theorem zaddL (n k : Nat) : (OfNat.ofNat n : Int32) + nI k = nI (n + k) := nI_add n k
theorem zaddR (n k : Nat) : nI k + (OfNat.ofNat n : Int32) = nI (k + n) := nI_add k n
theorem zcl {k : Nat} (h : k < 2147483648) : (nI k).toNatClampNeg = k := nI_clamp h
theorem zclL (n : Nat) (h : n < 2147483648) : (OfNat.ofNat n : Int32).toNatClampNeg = n := nI_clamp h
theorem zltI {a b : Nat} (ha : a < 2147483648) (hb : b < 2147483648) : nI a < nI b ↔ a < b := nI_ltI ha hb
def b2i (b : Bool) : Int32 := if b then 1 else 0
theorem b2i_0 (b : Bool) : (b2i b = 0) = (b = false) := by cases b <;> decide
theorem b2i_1 (b : Bool) : (b2i b = 1) = (b = true) := by cases b <;> decide
theorem b2i_and (b : Bool) : b2i b &&& 1 = b2i b := by cases b <;> decide
theorem b2i_t : b2i true = 1 := rfl
theorem b2i_f : b2i false = 0 := rfl
theorem s_hasN {d : Nat} (x : Int32) {f : Nat} (hf : f < 32) (σ : zS) (Q : Int32 → zS → Prop) : ZC (d + 1) 132 [.int x, .int (nI f)] σ Q = Q (b2i (zb x f)) σ := by
  rw [s_has]
  congr 1
  by_cases h : zb x f = true
  · rw [if_neg (by rw [zb_has hf, h]; decide), h]; rfl
  · rw [if_pos (by rw [zb_has hf]; simpa using h)]; simp [h, b2i]
theorem s_hasR {d : Nat} (x : Int32) {f : Nat} (hf : f < 32) (σ : zS) (Q : Int32 → zS → Prop) : ZC (d + 1) 172 [.int x, .int (nI f)] σ Q = Q (b2i (zb x f)) σ := by
  refine s_of (fun Q h => k_172_0 ?_) Q
  have h1 : zshr x (nI f) &&& 1 = b2i (zb x f) := by
    by_cases h : zb x f = true
    · rw [h]
      have h2 : ¬ (zshr x (nI f) &&& 1 = 0) := by rw [zb_has hf, h]; decide
      have h3 := @pk_andE (zshr x (nI f)) 1 1 (by decide)
      obtain ⟨j, hj, e⟩ := h3
      rw [e] at h2 ⊢
      have : j = 0 ∨ j = 1 := by omega
      rcases this with rfl | rfl
      · exact absurd rfl h2
      · rfl
    · have h2 := (zb_has (x := x) hf).mpr (by simpa using h)
      rw [h2]; simp [h, b2i]
  rw [h1]
  cases hz : zb x f <;> rw [hz] at h <;> exact h
theorem s_in {d : Nat} (v a b : Int32) (σ : zS) (Q : Int32 → zS → Prop) : ZC (d + 1) 171 [.int v, .int a, .int b] σ Q = Q (if v < a then 0 else if b < v then 0 else 1) σ :=
  s_of (fun Q h => k_171_0 (by repeat' split <;> simp_all)) Q
theorem test_1 (σ : zS) (f : Nat → Int32) (k : Nat) (h : k < 9) : (zup (zup (zput σ 18 f) 14 4 7) 18 (Int32.toNatClampNeg (18 + nI k)) 5) 14 4 = 7 ∧ zup (zup σ 18 3 4) 14 1 2 = zput (zput σ 14 (upd (σ 14) 1 2)) 18 (upd (σ 18) 3 4) := by
  constructor
  · simp only [zup_eq, zput_app, upd_app, Nat.reduceEqDiff, ↓reduceIte]
  · simp only [zup_eq, zput_app, Nat.reduceEqDiff, ↓reduceIte]
    simp only [zput_comm, zput_twice, Nat.reduceLT]
theorem zf1 {f : Nat} (h : f < 9) : (nI f < 0) = False := by simp [nI_pos (n := f) (by omega)]
theorem zf2 {f : Nat} (h : f < 9) : (nI f < 9) = True := by
  have : nI f < nI 9 := nI_lt h (by decide)
  exact eq_true this
theorem zf3 {f : Nat} (h : f < 9) : (zin (nI f) 9 = true) = True := by simp [zin_nI h (by decide)]
theorem zf4 {f : Nat} (h : f < 9) : (nI f).toNatClampNeg = f := nI_clamp (by omega)
theorem zr {n : Nat} (h : n < 288) : (zin (nI n) 288 = true) = True := by simp [zin_nI h (by decide)]
theorem zlt {a b : Nat} (h : a < b) (hb : b < 2147483648) : (nI a < nI b) = True := eq_true (nI_lt h hb)
theorem znlt {a b : Nat} (h : b ≤ a) (ha : a < 2147483648) : (nI a < nI b) = False := eq_false (nI_nlt h ha)
theorem zmulL (n k : Nat) : (OfNat.ofNat n : Int32) * nI k = nI (n * k) := pk_mul n k
theorem zinT {j n : Nat} (h : j < n) (hn : n < 2147483648) : (zin (nI j) n = true) = True := by simp [zin_nI h hn]
theorem zinL (j : Nat) {n : Nat} (h : j < n) (hn : n < 2147483648) : (zin (OfNat.ofNat j : Int32) n = true) = True := zinT h hn
theorem zltL {a : Nat} (n : Nat) (h : a < n) (hn : n < 2147483648) : (nI a < (OfNat.ofNat n : Int32)) = True := zlt h hn
theorem znltL {a : Nat} (n : Nat) (h : n ≤ a) (hn : a < 2147483648) : (nI a < (OfNat.ofNat n : Int32)) = False := znlt h hn
theorem zneg {a : Nat} (h : a < 2147483648) : (nI a < 0) = False := eq_false (nI_pos h)
theorem upd_ne {f : Nat → Int32} {k j : Nat} {x : Int32} (h : j ≠ k) : upd f k x j = f j := if_neg h
theorem upd_eq (f : Nat → Int32) (k : Nat) (x : Int32) : upd f k x k = x := if_pos rfl
theorem upd_comm (f : Nat → Int32) {i j : Nat} (h : i < j) (x y : Int32) : upd (upd f j y) i x = upd (upd f i x) j y := by
  funext q
  simp only [upd]
  by_cases h1 : q = i
  · subst h1
    rw [if_pos rfl, if_neg (by omega), if_pos rfl]
  · rw [if_neg h1, if_neg h1]
theorem zrem_nI {a b : Nat} (ha : a < 2147483648) (h0 : 0 < b) (hb : b < 2147483648) : zrem (nI a) (nI b) = nI (a % b) := pk_rem ha h0 hb
theorem zb_sh (x : Int32) {f : Nat} (hf : f < 32) : zshr x (nI f) &&& 1 = b2i (zb x f) := by
  by_cases h : zb x f = true
  · rw [h]
    have h2 : ¬ (zshr x (nI f) &&& 1 = 0) := by rw [zb_has hf, h]; decide
    obtain ⟨j, hj, e⟩ := @pk_andE (zshr x (nI f)) 1 1 (by decide)
    rw [e] at h2 ⊢
    have hj2 : j = 0 ∨ j = 1 := by omega
    rcases hj2 with rfl | rfl
    · exact absurd rfl h2
    · rfl
  · have h2 := (zb_has (x := x) hf).mpr (by simpa using h)
    rw [h2]; simp [h, b2i]
theorem zshl0 : ∀ f, f < 9 → zshl 0 (nI f) = 0 := by decide +kernel
theorem zput_self2 {σ : zS} {o : Nat} {f : Nat → Int32} (h : f = σ o) : zput σ o f = σ := by rw [h, zput_self]
theorem za2 (k : Nat) : (2 : Int32) + nI k = nI (2 + k) := nI_add 2 k
theorem zA2 (k : Nat) : nI k + (2 : Int32) = nI (k + 2) := nI_add k 2
theorem zm2 (k : Nat) : (2 : Int32) * nI k = nI (2 * k) := pk_mul 2 k
theorem za3 (k : Nat) : (3 : Int32) + nI k = nI (3 + k) := nI_add 3 k
theorem zA3 (k : Nat) : nI k + (3 : Int32) = nI (k + 3) := nI_add k 3
theorem zm3 (k : Nat) : (3 : Int32) * nI k = nI (3 * k) := pk_mul 3 k
theorem za4 (k : Nat) : (4 : Int32) + nI k = nI (4 + k) := nI_add 4 k
theorem zA4 (k : Nat) : nI k + (4 : Int32) = nI (k + 4) := nI_add k 4
theorem zm4 (k : Nat) : (4 : Int32) * nI k = nI (4 * k) := pk_mul 4 k
theorem za9 (k : Nat) : (9 : Int32) + nI k = nI (9 + k) := nI_add 9 k
theorem zA9 (k : Nat) : nI k + (9 : Int32) = nI (k + 9) := nI_add k 9
theorem zm9 (k : Nat) : (9 : Int32) * nI k = nI (9 * k) := pk_mul 9 k
theorem za10 (k : Nat) : (10 : Int32) + nI k = nI (10 + k) := nI_add 10 k
theorem zA10 (k : Nat) : nI k + (10 : Int32) = nI (k + 10) := nI_add k 10
theorem zm10 (k : Nat) : (10 : Int32) * nI k = nI (10 * k) := pk_mul 10 k
theorem za18 (k : Nat) : (18 : Int32) + nI k = nI (18 + k) := nI_add 18 k
theorem zA18 (k : Nat) : nI k + (18 : Int32) = nI (k + 18) := nI_add k 18
theorem zm18 (k : Nat) : (18 : Int32) * nI k = nI (18 * k) := pk_mul 18 k
theorem za27 (k : Nat) : (27 : Int32) + nI k = nI (27 + k) := nI_add 27 k
theorem zA27 (k : Nat) : nI k + (27 : Int32) = nI (k + 27) := nI_add k 27
theorem zm27 (k : Nat) : (27 : Int32) * nI k = nI (27 * k) := pk_mul 27 k
theorem za36 (k : Nat) : (36 : Int32) + nI k = nI (36 + k) := nI_add 36 k
theorem zA36 (k : Nat) : nI k + (36 : Int32) = nI (k + 36) := nI_add k 36
theorem zm36 (k : Nat) : (36 : Int32) * nI k = nI (36 * k) := pk_mul 36 k
theorem za48 (k : Nat) : (48 : Int32) + nI k = nI (48 + k) := nI_add 48 k
theorem zA48 (k : Nat) : nI k + (48 : Int32) = nI (k + 48) := nI_add k 48
theorem zm48 (k : Nat) : (48 : Int32) * nI k = nI (48 * k) := pk_mul 48 k
theorem za288 (k : Nat) : (288 : Int32) + nI k = nI (288 + k) := nI_add 288 k
theorem zA288 (k : Nat) : nI k + (288 : Int32) = nI (k + 288) := nI_add k 288
theorem zm288 (k : Nat) : (288 : Int32) * nI k = nI (288 * k) := pk_mul 288 k
theorem zl2 {a : Nat} (h : a < 2) : (nI a < 2) = True := zlt h (by decide)
theorem zn2_ {a : Nat} (h : 2 ≤ a) (ha : a < 2147483648) : (nI a < 2) = False := znlt h ha
theorem zl3 {a : Nat} (h : a < 3) : (nI a < 3) = True := zlt h (by decide)
theorem zn3_ {a : Nat} (h : 3 ≤ a) (ha : a < 2147483648) : (nI a < 3) = False := znlt h ha
theorem zl5 {a : Nat} (h : a < 5) : (nI a < 5) = True := zlt h (by decide)
theorem zn5_ {a : Nat} (h : 5 ≤ a) (ha : a < 2147483648) : (nI a < 5) = False := znlt h ha
theorem zl9 {a : Nat} (h : a < 9) : (nI a < 9) = True := zlt h (by decide)
theorem zn9_ {a : Nat} (h : 9 ≤ a) (ha : a < 2147483648) : (nI a < 9) = False := znlt h ha
theorem zl10 {a : Nat} (h : a < 10) : (nI a < 10) = True := zlt h (by decide)
theorem zn10_ {a : Nat} (h : 10 ≤ a) (ha : a < 2147483648) : (nI a < 10) = False := znlt h ha
theorem zl16 {a : Nat} (h : a < 16) : (nI a < 16) = True := zlt h (by decide)
theorem zn16_ {a : Nat} (h : 16 ≤ a) (ha : a < 2147483648) : (nI a < 16) = False := znlt h ha
theorem zl20 {a : Nat} (h : a < 20) : (nI a < 20) = True := zlt h (by decide)
theorem zn20_ {a : Nat} (h : 20 ≤ a) (ha : a < 2147483648) : (nI a < 20) = False := znlt h ha
theorem zl40 {a : Nat} (h : a < 40) : (nI a < 40) = True := zlt h (by decide)
theorem zn40_ {a : Nat} (h : 40 ≤ a) (ha : a < 2147483648) : (nI a < 40) = False := znlt h ha
theorem zl60 {a : Nat} (h : a < 60) : (nI a < 60) = True := zlt h (by decide)
theorem zn60_ {a : Nat} (h : 60 ≤ a) (ha : a < 2147483648) : (nI a < 60) = False := znlt h ha
theorem zl76 {a : Nat} (h : a < 76) : (nI a < 76) = True := zlt h (by decide)
theorem zn76_ {a : Nat} (h : 76 ≤ a) (ha : a < 2147483648) : (nI a < 76) = False := znlt h ha
theorem zl80 {a : Nat} (h : a < 80) : (nI a < 80) = True := zlt h (by decide)
theorem zn80_ {a : Nat} (h : 80 ≤ a) (ha : a < 2147483648) : (nI a < 80) = False := znlt h ha
theorem zl288 {a : Nat} (h : a < 288) : (nI a < 288) = True := zlt h (by decide)
theorem zn288_ {a : Nat} (h : 288 ≤ a) (ha : a < 2147483648) : (nI a < 288) = False := znlt h ha
theorem zl300 {a : Nat} (h : a < 300) : (nI a < 300) = True := zlt h (by decide)
theorem zn300_ {a : Nat} (h : 300 ≤ a) (ha : a < 2147483648) : (nI a < 300) = False := znlt h ha
