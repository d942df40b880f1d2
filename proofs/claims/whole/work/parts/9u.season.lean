/-! a season: the seed's faces -/
theorem ush_rng (y : Int32) : ∃ n, n < 65536 ∧ zushr y 16 = nI n := by
  have e : (zushr y 16).toBitVec.toNat = y.toBitVec.toNat / 2 ^ 16 := pk_ushr y 16 16 (by decide)
  have hb : y.toBitVec.toNat < 2 ^ 32 := y.toBitVec.isLt
  have hlt : (zushr y 16).toBitVec.toNat < 65536 := by rw [e]; omega
  refine ⟨(zushr y 16).toBitVec.toNat, hlt, ?_⟩
  apply Int32.toBitVec_inj.mp
  apply BitVec.eq_of_toNat_eq
  show _ = (Int32.ofNat (zushr y 16).toBitVec.toNat).toBitVec.toNat
  rw [Int32.toBitVec_ofNat', BitVec.toNat_ofNat]
  omega
def tv10 (y : Int32) : Int32 := zrem (zushr y 16) 10
theorem tv10_rng (y : Int32) : ∃ n, n ≤ 9 ∧ tv10 y = nI n := by
  obtain ⟨n, hn, e⟩ := ush_rng y
  refine ⟨n % 10, by omega, ?_⟩
  unfold tv10
  rw [e]
  exact zrem_nI (b := 10) (by omega) (by decide) (by decide)
def sdN (x : Int32) : Nat → Int32
  | 0 => x
  | k + 1 => sdN x k * 1103515245 + 12345
theorem sdN_1 (x : Int32) (k : Nat) : sdN x (k + 1) = sdN x k * 1103515245 + 12345 := rfl
def rwS (x : Int32) (r : Nat → Int32) : Nat → Nat → Int32
  | 0 => r
  | k + 1 => upd (rwS x r k) k (tv10 (sdN x (k + 1)))
theorem rwS_1 (x : Int32) (r : Nat → Int32) (k : Nat) : rwS x r (k + 1) = upd (rwS x r k) k (tv10 (sdN x (k + 1))) := rfl
theorem rwS_cong {x : Int32} {r r' : Nat → Int32} (h : REq r r') : ∀ k, REq (rwS x r k) (rwS x r' k) := by
  intro k
  induction k with
  | zero => exact h
  | succ k ih =>
    intro i hi
    rw [rwS_1, rwS_1]
    by_cases q : i = k
    · rw [q, upd_eq, upd_eq]
    · rw [upd_ne q, upd_ne q]; exact ih i hi
theorem rwS_WR {F t : Nat} {x : Int32} {r : Nat → Int32} (h9 : F ≤ 9) (h : WR F t r) : ∀ k, k ≤ F → WR F t (rwS x r k) := by
  intro k
  induction k with
  | zero => intro _; exact h
  | succ k ih =>
    intro hk
    obtain ⟨n, hn, e⟩ := tv10_rng (sdN x (k + 1))
    rw [rwS_1, e]
    exact WR.tired h9 (by omega) hn (ih (by omega))
theorem CM.tired26 {F f n : Nat} {r : Nat → Int32} {σ : zS} (hf : f < F) (h9 : F ≤ 9) (h : CM 26 F r σ) : CM 26 F (upd r f (nI n)) (zup σ 27 f (nI n)) := by
  obtain ⟨h1, h2, h3, h4, h5⟩ := h
  refine ⟨fun g hg => ?_, fun g g1 g2 => ?_, fun g g1 g2 => h3 g g1 g2, ?_, ?_⟩
  · obtain ⟨a1, a2, a3, a4, a5⟩ := h1 g hg
    rw [upd_ne (show 9 + g ≠ f by omega), upd_ne (show 18 + g ≠ f by omega), upd_ne (show 27 + g ≠ f by omega), upd_ne (show 36 + g ≠ f by omega)]
    refine ⟨?_, a2, a3, a4, a5⟩
    show (zup σ 27 f (nI n)) 27 g = _
    by_cases hgf : g = f
    · subst hgf
      rw [zup_eq, zput_app, if_pos rfl, upd_eq, upd_eq]
    · rw [zup_eq, zput_app, if_pos rfl, upd_ne hgf, upd_ne hgf]; exact a1
  · exact h2 g g1 g2
  · rw [upd_ne (by omega)]; exact h4
  · rw [upd_ne (by omega)]; exact h5
/-- the one with whom it starts is a face -/
theorem sW_face {c : MC} {J : Int32} (h9 : c.1 ≤ 9) : ∀ n k (r : Nat → Int32) fa, (sW c J n k r fa).1 = -1 ∨ ∃ f, f < c.1 ∧ (sW c J n k r fa).2.1 = nI f := by
  intro n
  induction n with
  | zero => intro k r fa; exact Or.inl rfl
  | succ n ih =>
    intro k r fa
    unfold sW
    by_cases h0 : tru c J r = 0
    · rw [if_pos h0]; exact ih _ _ _
    · rw [if_neg h0]
      have hout : ∀ f, c.1 ≤ f → f < 32 → zb (tru c J r) f = false := fun f h1 h2 => by
        unfold tru ysS
        rw [zb_and, bs_out h9 h1 h2]; rfl
      obtain ⟨m, hm, e⟩ := i_small (x := tru c J r) (fun f h1 h2 => hout f (by omega) h2)
      have hm0 : m ≠ 0 := by rintro rfl; exact h0 e
      have hl := ls512 m hm hm0
      rw [← e] at hl
      refine Or.inr ?_
      show ∃ f, f < c.1 ∧ bc ((tru c J r &&& -(tru c J r)) - 1) = nI f
      rw [hl]
      rcases ff_cases (p := zb (tru c J r)) 9 0 with ⟨-, q2⟩ | ⟨j, -, j1, j2, j3, -⟩
      · exfalso
        refine h0 (zb_ext (fun f hf => ?_))
        rw [zb_0]
        by_cases q : f < 9
        · exact q2 f (by omega) (by omega)
        · exact hout f (by omega) hf
      · refine ⟨j, ?_, j3⟩
        rcases Nat.lt_or_ge j c.1 with q | q
        · exact q
        · rw [hout j q (by omega)] at j2; cases j2
/-! its races -/
abbrev SS : Type := Int32 × Nat × Int32 × Int32 × (Nat → Nat)
def mnI (a b : Int32) : Int32 := if b < a then b else a
def mxI (a b : Int32) : Int32 := if a < b then b else a
def ssF (c : MC) (j : Int32) (r0 : Nat → Int32) (s : SS) : Int32 × Int32 × Int32 := stR c j (rwS s.1 r0 c.1)
def ssN (c : MC) (j : Int32) (r0 : Nat → Int32) (s : SS) : SS :=
  if (ssF c j r0 s).1 = -1 then (sdN s.1 c.1, s.2) else (sdN s.1 c.1, s.2.1 + 1, (if s.2.2.1 = -1 then (ssF c j r0 s).1 else mnI s.2.2.1 (ssF c j r0 s).1), mxI s.2.2.2.1 (ssF c j r0 s).1, upN s.2.2.2.2 (ssF c j r0 s).2.1.toNatClampNeg (s.2.2.2.2 (ssF c j r0 s).2.1.toNatClampNeg + 1))
def ssR (c : MC) (j : Int32) (r0 : Nat → Int32) (x : Int32) : Nat → SS
  | 0 => (x, 0, -1, -1, fun _ => 0)
  | k + 1 => ssN c j r0 (ssR c j r0 x k)
theorem ssR_1 (c : MC) (j : Int32) (r0 : Nat → Int32) (x : Int32) (k : Nat) : ssR c j r0 x (k + 1) = ssN c j r0 (ssR c j r0 x k) := rfl
theorem ssR_le {c : MC} {j : Int32} {r0 : Nat → Int32} {x : Int32} : ∀ k, (ssR c j r0 x k).2.1 ≤ k ∧ ∀ f, (ssR c j r0 x k).2.2.2.2 f ≤ k := by
  intro k
  induction k with
  | zero => exact ⟨Nat.le_refl 0, fun _ => Nat.le_refl 0⟩
  | succ k ih =>
    rw [ssR_1]
    unfold ssN
    split
    · exact ⟨by show (ssR c j r0 x k).2.1 ≤ k + 1; omega, fun f => by show (ssR c j r0 x k).2.2.2.2 f ≤ k + 1; have := ih.2 f; omega⟩
    · refine ⟨by show (ssR c j r0 x k).2.1 + 1 ≤ k + 1; omega, fun f => ?_⟩
      show upN (ssR c j r0 x k).2.2.2.2 _ _ f ≤ k + 1
      unfold upN
      split
      · have := ih.2 (ssF c j r0 (ssR c j r0 x k)).2.1.toNatClampNeg; omega
      · have := ih.2 f; omega
