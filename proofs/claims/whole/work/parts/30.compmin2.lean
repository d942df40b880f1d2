/-! the class's minute: yawns -/
/-- tiredness of the first faces is 0 .. 9 -/
def TR (F : Nat) (r : Nat → Int32) : Prop := ∀ f, f < F → ∃ n, n ≤ 9 ∧ r f = nI n
theorem mxn : ∀ n, n ≤ 9 → mx0 (mn9 (nI n + (-1))) = mx0 (nI n - 1) ∧ mx0 (mn9 (nI n + 0)) = nI n ∧ mx0 (mn9 (nI n + 1)) = mn9 (nI n + 1) := by decide +kernel
theorem mxr : ∀ n, n ≤ 9 → (∃ m, m ≤ 9 ∧ mx0 (nI n - 1) = nI m) ∧ (∃ m, m ≤ 9 ∧ mn9 (nI n + 1) = nI m) := by decide +kernel
theorem ry_TR {F : Nat} {fr : Bool} {r : Nat → Int32} (h9 : F ≤ 9) (h : TR F r) : ∀ k, k ≤ 9 → TR F (ry fr r k) := by
  intro k
  induction k with
  | zero => intro _; exact h
  | succ k ih =>
    intro hk f hf
    obtain ⟨n, hn, e⟩ := ih (by omega) f hf
    unfold ry
    split
    · rw [gy_at (by omega) (by omega), if_neg (by omega), if_neg (by omega), if_neg (by omega)]
      split
      · obtain ⟨m, hm, e2⟩ := (mxr n hn).1
        have : f = k := by rename_i q; exact q.1
        subst this
        exact ⟨m, hm, by rw [e, e2]⟩
      · exact ⟨n, hn, e⟩
    · exact ⟨n, hn, e⟩
theorem Fr.pm_pw {W : Nat} {σ σ' : zS} (h : Fr (pm (W + 3)) σ σ') : Fr (pw W) σ σ' := Fr.mono h (fun o i q => by
  simp only [pw, pm, decide_eq_false_iff_not] at q ⊢
  omega)
theorem bs_1 (p : Nat → Bool) (n : Nat) : bs p (n + 1) = if p n then bs p n ||| zshl 1 (nI n) else bs p n := rfl
theorem c_yawnAll14 {d : Nat} {σ : zS} {F : Nat} {fr : Bool} {r : Nat → Int32} (hF : σ 14 3 = nI F) (h9 : F ≤ 9) (hcm : CM 17 F r σ) (hTR : TR F r) {Q : Int32 → zS → Prop}
    (h : ∀ σ', Fr (pw 14) σ σ' → CM 17 F (ry fr r F) σ' → σ' 14 4 = bs (yw fr r) F → σ' 14 5 = bs (mw fr r) F → (∀ f, f < F → yw fr r f = true → σ' 22 f = r (27 + f)) → Q 0 σ') : ZC (d + 4) 78 [.ref 14, .int (b2i fr)] σ Q := by
  refine kx_78_0_i14 ?_
  refine z_for (F := F) (P := fun k => ∀ σ1, Fr (pw 14) σ σ1 → CM 17 F (ry fr r k) σ1 → σ1 14 4 = bs (yw fr r) k → σ1 14 5 = bs (mw fr r) k → (∀ f, f < k → yw fr r f = true → σ1 22 f = r (27 + f)) → ∀ w, Z (d + 3) 78 Q 12 [.ref 14, .int (b2i fr), .int (nI k), w] [] σ1) (fun k hk ih => ?_) ?_ _ ?_ ?_ ?_ ?_ ?_ _
  · intro σ1 f1 f2 f3 f4 f5 w
    have e3 : σ1 14 3 = nI F := (f1 14 3 (by decide)).trans hF
    have f2' := f2
    obtain ⟨g1, g2, g3, g4, g5⟩ := f2'
    obtain ⟨a1, a2, a3, a4, a5⟩ := g1 k hk
    obtain ⟨o1, o2, o3, o4, o5⟩ := ry_old (fr := fr) (r := r) k (by omega) k (Nat.le_refl k) (by omega)
    rw [o1] at a1; rw [o2] at a2; rw [o3] at a3; rw [o4] at a4; rw [o5] at a5
    rw [(ry_hi k (by omega)).1] at g4; rw [(ry_hi k (by omega)).2] at g5
    have skip : yw fr r k = false → ∀ x3 : Int32, Z (d + 3) 78 Q 181 [.ref 14, .int (b2i fr), .int (nI k), .int x3] [] σ1 := by
      intro hy x3
      refine kx_78_181_i14 ?_
      rw [nI_1]
      refine ih σ1 f1 ?_ ?_ ?_ ?_ _
      · unfold ry; rw [hy]; exact f2
      · rw [bs_1, hy]; exact f3
      · rw [bs_1, show mw fr r k = false by unfold mw; rw [hy]; rfl]; exact f4
      · intro f hf hyf
        by_cases hfk : f = k
        · subst hfk; rw [hy] at hyf; cases hyf
        · exact f5 f (by omega) hyf
    have yawns : yw fr r k = true → ∀ x3 : Int32, Z (d + 3) 78 Q 94 [.ref 14, .int (b2i fr), .int (nI k), .int x3] [] σ1 := by
      intro hy x3
      refine kx_78_94_i14 ?_
      simp (disch := omega) only [zup_eq, zput_app, zput_twice, upd_same, nI_1, za2, zA2, zm2, za3, zA3, zm3, za4, zA4, zm4, za9, zA9, zm9, za10, zA10, zm10, za18, zA18, zm18, za27, zA27, zm27, za36, zA36, zm36, za48, zA48, zm48, za288, zA288, zm288, zcl, zinT, upd_ne, upd_eq, zlt, znlt, zl2, zn2_, zl3, zn3_, zl5, zn5_, zl9, zn9_, zl10, zn10_, zl16, zn16_, zl20, zn20_, zl40, zn40_, zl60, zn60_, zl76, zn76_, zl80, zn80_, zl288, zn288_, zl300, zn300_, zneg, Nat.reduceEqDiff, Nat.reduceAdd, ↓reduceIte, s_bit, b2i_0]
      rw [zb_andbit _ (by omega), a5, a4, f3, f4]
      have hb1 : bs (yw fr r) k ||| zshl 1 (nI k) = bs (yw fr r) (k + 1) := by rw [bs_1, hy]; rfl
      have hb2 : (bs (mw fr r) k ||| if decide (r (36 + k) = 1) = true then zshl 1 (nI k) else 0) = bs (mw fr r) (k + 1) := by
        rw [bs_1]
        unfold mw
        rw [hy]
        by_cases hq : r (36 + k) = 1 <;> simp [hq]
      rw [hb1, hb2]
      generalize hσ2 : zput (zput σ1 14 (upd (upd (σ1 14) 4 (bs (yw fr r) (k + 1))) 5 (bs (mw fr r) (k + 1)))) 22 (upd (σ1 22) k (r (27 + k))) = σ2
      have c2 : CM 17 F (ry fr r k) σ2 := by
        refine CM.fr (p := fun o _ => decide (o = 14 ∨ o = 22)) f2 ?_ (fun o i h1 h2 => by simp; omega)
        rw [← hσ2]
        exact Fr.tr (Fr.put (fun i q => by simp at q)) (Fr.put (fun i q => by simp at q))
      have fr2 : Fr (pw 14) σ1 σ2 := by
        rw [← hσ2]
        refine Fr.tr (Fr.put (fun i q => ?_)) (Fr.put (fun i q => by simp [pw] at q))
        have hi : i ≠ 4 ∧ i ≠ 5 := by constructor <;> (rintro rfl; simp [pw] at q)
        rw [upd_ne hi.2, upd_ne hi.1]
      have h24 : σ2 14 4 = bs (yw fr r) (k + 1) := by rw [← hσ2]; simp (disch := omega) only [zup_eq, zput_app, zput_twice, upd_same, nI_1, za2, zA2, zm2, za3, zA3, zm3, za4, zA4, zm4, za9, zA9, zm9, za10, zA10, zm10, za18, zA18, zm18, za27, zA27, zm27, za36, zA36, zm36, za48, zA48, zm48, za288, zA288, zm288, zcl, zinT, upd_ne, upd_eq, zlt, znlt, zl2, zn2_, zl3, zn3_, zl5, zn5_, zl9, zn9_, zl10, zn10_, zl16, zn16_, zl20, zn20_, zl40, zn40_, zl60, zn60_, zl76, zn76_, zl80, zn80_, zl288, zn288_, zl300, zn300_, zneg, Nat.reduceEqDiff, Nat.reduceAdd, ↓reduceIte]
      have h25 : σ2 14 5 = bs (mw fr r) (k + 1) := by rw [← hσ2]; simp (disch := omega) only [zup_eq, zput_app, zput_twice, upd_same, nI_1, za2, zA2, zm2, za3, zA3, zm3, za4, zA4, zm4, za9, zA9, zm9, za10, zA10, zm10, za18, zA18, zm18, za27, zA27, zm27, za36, zA36, zm36, za48, zA48, zm48, za288, zA288, zm288, zcl, zinT, upd_ne, upd_eq, zlt, znlt, zl2, zn2_, zl3, zn3_, zl5, zn5_, zl9, zn9_, zl10, zn10_, zl16, zn16_, zl20, zn20_, zl40, zn40_, zl60, zn60_, zl76, zn76_, zl80, zn80_, zl288, zn288_, zl300, zn300_, zneg, Nat.reduceEqDiff, Nat.reduceAdd, ↓reduceIte]
      have h28 : ∀ f, f < k + 1 → yw fr r f = true → σ2 22 f = r (27 + f) := by
        intro f hf hyf
        rw [← hσ2]
        by_cases hfk : f = k
        · subst hfk; simp (disch := omega) only [zup_eq, zput_app, zput_twice, upd_same, nI_1, za2, zA2, zm2, za3, zA3, zm3, za4, zA4, zm4, za9, zA9, zm9, za10, zA10, zm10, za18, zA18, zm18, za27, zA27, zm27, za36, zA36, zm36, za48, zA48, zm48, za288, zA288, zm288, zcl, zinT, upd_ne, upd_eq, zlt, znlt, zl2, zn2_, zl3, zn3_, zl5, zn5_, zl9, zn9_, zl10, zn10_, zl16, zn16_, zl20, zn20_, zl40, zn40_, zl60, zn60_, zl76, zn76_, zl80, zn80_, zl288, zn288_, zl300, zn300_, zneg, Nat.reduceEqDiff, Nat.reduceAdd, ↓reduceIte]
        · simp (disch := omega) only [zup_eq, zput_app, zput_twice, upd_same, nI_1, za2, zA2, zm2, za3, zA3, zm3, za4, zA4, zm4, za9, zA9, zm9, za10, zA10, zm10, za18, zA18, zm18, za27, zA27, zm27, za36, zA36, zm36, za48, zA48, zm48, za288, zA288, zm288, zcl, zinT, upd_ne, upd_eq, zlt, znlt, zl2, zn2_, zl3, zn3_, zl5, zn5_, zl9, zn9_, zl10, zn10_, zl16, zn16_, zl20, zn20_, zl40, zn40_, zl60, zn60_, zl76, zn76_, zl80, zn80_, zl288, zn288_, zl300, zn300_, zneg, Nat.reduceEqDiff, Nat.reduceAdd, ↓reduceIte]; exact f5 f (by omega) hyf
      refine c_drop14 c2 h9 hk (fun σ3 fr3 c3 => ?_)
      have hy3 : σ3 19 k = r (9 + k) := by
        rw [(c3.1 k hk).2.1]; unfold gcl; simp (disch := omega) only [zup_eq, zput_app, zput_twice, upd_same, nI_1, za2, zA2, zm2, za3, zA3, zm3, za4, zA4, zm4, za9, zA9, zm9, za10, zA10, zm10, za18, zA18, zm18, za27, zA27, zm27, za36, zA36, zm36, za48, zA48, zm48, za288, zA288, zm288, zcl, zinT, upd_ne, upd_eq, zlt, znlt, zl2, zn2_, zl3, zn3_, zl5, zn5_, zl9, zn9_, zl10, zn10_, zl16, zn16_, zl20, zn20_, zl40, zn40_, zl60, zn60_, zl76, zn76_, zl80, zn80_, zl288, zn288_, zl300, zn300_, zneg, Nat.reduceEqDiff, Nat.reduceAdd, ↓reduceIte]; exact o2
      rw [hy3]
      generalize hσ4 : zput σ3 19 (upd (σ3 19) k (r (9 + k) + 1)) = σ4
      have c4 : CM 17 F (gyo (gcl (ry fr r k) k) k) σ4 := by
        obtain ⟨b1, b2, b3, b4, b5⟩ := c3
        rw [← hσ4]
        refine ⟨fun g hg => ?_, fun g hg hg2 => ?_, fun g hg hg2 => ?_, ?_, ?_⟩
        · obtain ⟨x1, x2, x3, x4, x5⟩ := b1 g hg
          unfold gyo
          by_cases hgk : g = k
          · subst hgk
            simp (disch := omega) only [zup_eq, zput_app, zput_twice, upd_same, nI_1, za2, zA2, zm2, za3, zA3, zm3, za4, zA4, zm4, za9, zA9, zm9, za10, zA10, zm10, za18, zA18, zm18, za27, zA27, zm27, za36, zA36, zm36, za48, zA48, zm48, za288, zA288, zm288, zcl, zinT, upd_ne, upd_eq, zlt, znlt, zl2, zn2_, zl3, zn3_, zl5, zn5_, zl9, zn9_, zl10, zn10_, zl16, zn16_, zl20, zn20_, zl40, zn40_, zl60, zn60_, zl76, zn76_, zl80, zn80_, zl288, zn288_, zl300, zn300_, zneg, Nat.reduceEqDiff, Nat.reduceAdd, ↓reduceIte, x1, x3, x4, x5]
            unfold gcl
            simp (disch := omega) only [zup_eq, zput_app, zput_twice, upd_same, nI_1, za2, zA2, zm2, za3, zA3, zm3, za4, zA4, zm4, za9, zA9, zm9, za10, zA10, zm10, za18, zA18, zm18, za27, zA27, zm27, za36, zA36, zm36, za48, zA48, zm48, za288, zA288, zm288, zcl, zinT, upd_ne, upd_eq, zlt, znlt, zl2, zn2_, zl3, zn3_, zl5, zn5_, zl9, zn9_, zl10, zn10_, zl16, zn16_, zl20, zn20_, zl40, zn40_, zl60, zn60_, zl76, zn76_, zl80, zn80_, zl288, zn288_, zl300, zn300_, zneg, Nat.reduceEqDiff, Nat.reduceAdd, ↓reduceIte, o2]
            simp
          · simp (disch := omega) only [zup_eq, zput_app, zput_twice, upd_same, nI_1, za2, zA2, zm2, za3, zA3, zm3, za4, zA4, zm4, za9, zA9, zm9, za10, zA10, zm10, za18, zA18, zm18, za27, zA27, zm27, za36, zA36, zm36, za48, zA48, zm48, za288, zA288, zm288, zcl, zinT, upd_ne, upd_eq, zlt, znlt, zl2, zn2_, zl3, zn3_, zl5, zn5_, zl9, zn9_, zl10, zn10_, zl16, zn16_, zl20, zn20_, zl40, zn40_, zl60, zn60_, zl76, zn76_, zl80, zn80_, zl288, zn288_, zl300, zn300_, zneg, Nat.reduceEqDiff, Nat.reduceAdd, ↓reduceIte, x1, x2, x3, x4, x5]
            simp
        · simp (disch := omega) only [zup_eq, zput_app, zput_twice, upd_same, nI_1, za2, zA2, zm2, za3, zA3, zm3, za4, zA4, zm4, za9, zA9, zm9, za10, zA10, zm10, za18, zA18, zm18, za27, zA27, zm27, za36, zA36, zm36, za48, zA48, zm48, za288, zA288, zm288, zcl, zinT, upd_ne, upd_eq, zlt, znlt, zl2, zn2_, zl3, zn3_, zl5, zn5_, zl9, zn9_, zl10, zn10_, zl16, zn16_, zl20, zn20_, zl40, zn40_, zl60, zn60_, zl76, zn76_, zl80, zn80_, zl288, zn288_, zl300, zn300_, zneg, Nat.reduceEqDiff, Nat.reduceAdd, ↓reduceIte]; exact b2 g hg hg2
        · simp (disch := omega) only [zup_eq, zput_app, zput_twice, upd_same, nI_1, za2, zA2, zm2, za3, zA3, zm3, za4, zA4, zm4, za9, zA9, zm9, za10, zA10, zm10, za18, zA18, zm18, za27, zA27, zm27, za36, zA36, zm36, za48, zA48, zm48, za288, zA288, zm288, zcl, zinT, upd_ne, upd_eq, zlt, znlt, zl2, zn2_, zl3, zn3_, zl5, zn5_, zl9, zn9_, zl10, zn10_, zl16, zn16_, zl20, zn20_, zl40, zn40_, zl60, zn60_, zl76, zn76_, zl80, zn80_, zl288, zn288_, zl300, zn300_, zneg, Nat.reduceEqDiff, Nat.reduceAdd, ↓reduceIte]; exact b3 g hg hg2
        · simp (disch := omega) only [zup_eq, zput_app, zput_twice, upd_same, nI_1, za2, zA2, zm2, za3, zA3, zm3, za4, zA4, zm4, za9, zA9, zm9, za10, zA10, zm10, za18, zA18, zm18, za27, zA27, zm27, za36, zA36, zm36, za48, zA48, zm48, za288, zA288, zm288, zcl, zinT, upd_ne, upd_eq, zlt, znlt, zl2, zn2_, zl3, zn3_, zl5, zn5_, zl9, zn9_, zl10, zn10_, zl16, zn16_, zl20, zn20_, zl40, zn40_, zl60, zn60_, zl76, zn76_, zl80, zn80_, zl288, zn288_, zl300, zn300_, zneg, Nat.reduceEqDiff, Nat.reduceAdd, ↓reduceIte, gyo]; exact b4
        · simp (disch := omega) only [zup_eq, zput_app, zput_twice, upd_same, nI_1, za2, zA2, zm2, za3, zA3, zm3, za4, zA4, zm4, za9, zA9, zm9, za10, zA10, zm10, za18, zA18, zm18, za27, zA27, zm27, za36, zA36, zm36, za48, zA48, zm48, za288, zA288, zm288, zcl, zinT, upd_ne, upd_eq, zlt, znlt, zl2, zn2_, zl3, zn3_, zl5, zn5_, zl9, zn9_, zl10, zn10_, zl16, zn16_, zl20, zn20_, zl40, zn40_, zl60, zn60_, zl76, zn76_, zl80, zn80_, zl288, zn288_, zl300, zn300_, zneg, Nat.reduceEqDiff, Nat.reduceAdd, ↓reduceIte, gyo]; exact b5
      have fr4 : Fr (pm 17) σ3 σ4 := by
        rw [← hσ4]; exact Fr.put (fun i q => by simp [pm] at q)
      have done : ∀ σ5, Fr (pm 17) σ4 σ5 → CM 17 F (ry fr r (k + 1)) σ5 → Z (d + 3) 78 Q 181 [.ref 14, .int (b2i fr), .int (nI k), .int x3] [] σ5 := by
        intro σ5 fr5 c5
        refine kx_78_181_i14 ?_
        rw [nI_1]
        have fr25 : Fr (pm 17) σ2 σ5 := Fr.tr fr3 (Fr.tr fr4 fr5)
        refine ih σ5 (Fr.tr f1 (Fr.tr fr2 (Fr.pm_pw fr25))) c5 ?_ ?_ ?_ _
        · exact (fr25 14 4 (by decide)).trans h24
        · exact (fr25 14 5 (by decide)).trans h25
        · intro f hf hyf
          exact (fr25 22 f (by simp [pm])).trans (h28 f hf hyf)
      obtain ⟨n, hn, en⟩ := hTR k hk
      have ek : gyo (gcl (ry fr r k) k) k k = nI n := by
        unfold gyo gcl
        simp (disch := omega) only [zup_eq, zput_app, zput_twice, upd_same, nI_1, za2, zA2, zm2, za3, zA3, zm3, za4, zA4, zm4, za9, zA9, zm9, za10, zA10, zm10, za18, zA18, zm18, za27, zA27, zm27, za36, zA36, zm36, za48, zA48, zm48, za288, zA288, zm288, zcl, zinT, upd_ne, upd_eq, zlt, znlt, zl2, zn2_, zl3, zn3_, zl5, zn5_, zl9, zn9_, zl10, zn10_, zl16, zn16_, zl20, zn20_, zl40, zn40_, zl60, zn60_, zl76, zn76_, zl80, zn80_, zl288, zn288_, zl300, zn300_, zneg, Nat.reduceEqDiff, Nat.reduceAdd, ↓reduceIte]
        rw [o1, en]
      have eqr : ∀ i, i < 47 → upd (gyo (gcl (ry fr r k) k) k) k (if fr = false then mx0 (nI n - 1) else nI n) i = ry fr r (k + 1) i := by
        intro i hi
        conv => rhs; unfold ry
        rw [hy]
        simp only [↓reduceIte]
        rw [gy_at (by omega) hi]
        simp only [upd_app, gyo, gcl]
        by_cases h1 : i = k
        · subst h1
          have n1 : ¬ (i = 18 + i ∨ i = 27 + i) := by omega
          have n2 : ¬ (i = 36 + i) := by omega
          have n3 : ¬ (i = 9 + i) := by omega
          simp only [n1, n2, n3, ↓reduceIte, o1, en]
          cases fr <;> simp
        · by_cases h2 : i = 18 + k
          · subst h2; simp [h1]
          · by_cases h3 : i = 27 + k
            · subst h3; simp [h1]
            · by_cases h4 : i = 36 + k
              · subst h4; simp [h1]
              · by_cases h5 : i = 9 + k
                · subst h5; simp [h1]
                · simp [h1, h2, h3, h4, h5]
      cases fr
      · rw [if_pos rfl]
        refine c_tire14 c4 h9 hk _ (fun σ5 fr5 c5 => ?_)
        rw [ek, (mxn n hn).1] at c5
        exact done σ5 fr5 (CM.congr h9 c5 eqr)
      · rw [if_neg (by decide)]
        refine c_tire14 c4 h9 hk _ (fun σ5 fr5 c5 => ?_)
        rw [ek, (mxn n hn).2.1] at c5
        exact done σ5 fr5 (CM.congr h9 c5 eqr)
    have at57 : ∀ b : Bool, (b = true → yw fr r k = !zb (r 45) k) → (b = false → yw fr r k = (!zb (r 45) k && decide (r (18 + k) = r 46))) → Z (d + 3) 78 Q 57 [.ref 14, .int (b2i fr), .int (nI k), .int (b2i b)] [] σ1 := by
      intro b hb1 hb2
      refine kx_78_57_i14 ?_
      rw [g4]
      simp (disch := omega) only [zup_eq, zput_app, zput_twice, upd_same, nI_1, za2, zA2, zm2, za3, zA3, zm3, za4, zA4, zm4, za9, zA9, zm9, za10, zA10, zm10, za18, zA18, zm18, za27, zA27, zm27, za36, zA36, zm36, za48, zA48, zm48, za288, zA288, zm288, zcl, zinT, upd_ne, upd_eq, zlt, znlt, zl2, zn2_, zl3, zn3_, zl5, zn5_, zl9, zn9_, zl10, zn10_, zl16, zn16_, zl20, zn20_, zl40, zn40_, zl60, zn60_, zl76, zn76_, zl80, zn80_, zl288, zn288_, zl300, zn300_, zneg, Nat.reduceEqDiff, Nat.reduceAdd, ↓reduceIte, s_hasN, b2i_0, a3, g5]
      cases hz : zb (r 45) k
      · cases b
        · simp only [↓reduceIte]
          by_cases hd : r (18 + k) = r 46
          · rw [if_pos hd]
            exact yawns (by rw [hb2 rfl, hz, hd]; simp) _
          · rw [if_neg hd]
            exact skip (by rw [hb2 rfl]; simp [hd]) _
        · simp only [↓reduceIte, Bool.true_eq_false]
          exact yawns (by rw [hb1 rfl, hz]; rfl) _
      · simp only [↓reduceIte, Bool.true_eq_false]
        refine skip ?_ _
        unfold yw
        rw [hz]; rfl
    refine kx_78_12_i14 ?_
    simp (disch := omega) only [zup_eq, zput_app, zput_twice, upd_same, nI_1, za2, zA2, zm2, za3, zA3, zm3, za4, zA4, zm4, za9, zA9, zm9, za10, zA10, zm10, za18, zA18, zm18, za27, zA27, zm27, za36, zA36, zm36, za48, zA48, zm48, za288, zA288, zm288, zcl, zinT, upd_ne, upd_eq, zlt, znlt, zl2, zn2_, zl3, zn3_, zl5, zn5_, zl9, zn9_, zl10, zn10_, zl16, zn16_, zl20, zn20_, zl40, zn40_, zl60, zn60_, zl76, zn76_, zl80, zn80_, zl288, zn288_, zl300, zn300_, zneg, Nat.reduceEqDiff, Nat.reduceAdd, ↓reduceIte, e3, b2i_0, a1, a3]
    have n1 : (Value.int 1) = .int (b2i true) := rfl
    have n0 : (Value.int 0) = .int (b2i false) := rfl
    rw [n1, n0]
    cases hfr : fr
    · subst hfr
      simp only [↓reduceIte]
      by_cases q1 : r k = 9
      · by_cases q2 : r (18 + k) = -1
        · simp only [q1, q2, ↓reduceIte]
          exact at57 true (fun _ => by unfold yw; simp [q1, q2]) (fun q => by cases q)
        · simp only [q1, q2, ↓reduceIte]
          exact at57 false (fun q => by cases q) (fun _ => by unfold yw; simp [q2])
      · simp only [q1, ↓reduceIte]
        exact at57 false (fun q => by cases q) (fun _ => by unfold yw; simp [q1])
    · subst hfr
      simp only [↓reduceIte, Bool.true_eq_false]
      exact at57 false (fun q => by cases q) (fun _ => by unfold yw; simp)
  · intro σ1 f1 f2 f3 f4 f5 w
    have e3 : σ1 14 3 = nI F := (f1 14 3 (by decide)).trans hF
    refine kx_78_12_i14 ?_
    simp (disch := omega) only [zup_eq, zput_app, zput_twice, upd_same, nI_1, za2, zA2, zm2, za3, zA3, zm3, za4, zA4, zm4, za9, zA9, zm9, za10, zA10, zm10, za18, zA18, zm18, za27, zA27, zm27, za36, zA36, zm36, za48, zA48, zm48, za288, zA288, zm288, zcl, zinT, upd_ne, upd_eq, zlt, znlt, zl2, zn2_, zl3, zn3_, zl5, zn5_, zl9, zn9_, zl10, zn10_, zl16, zn16_, zl20, zn20_, zl40, zn40_, zl60, zn60_, zl76, zn76_, zl80, zn80_, zl288, zn288_, zl300, zn300_, zneg, Nat.reduceEqDiff, Nat.reduceAdd, ↓reduceIte, e3]
    exact h σ1 f1 f2 f3 f4 f5
  · refine Fr.tr (Fr.up (by decide)) (Fr.up (by decide))
  · refine CM.fr (p := fun o _ => decide (o = 14)) hcm ?_ (fun o i h1 h2 => by simp; omega)
    exact Fr.tr (Fr.up (by decide)) (Fr.up (by decide))
  · simp (disch := omega) only [zup_eq, zput_app, zput_twice, upd_same, nI_1, za2, zA2, zm2, za3, zA3, zm3, za4, zA4, zm4, za9, zA9, zm9, za10, zA10, zm10, za18, zA18, zm18, za27, zA27, zm27, za36, zA36, zm36, za48, zA48, zm48, za288, zA288, zm288, zcl, zinT, upd_ne, upd_eq, zlt, znlt, zl2, zn2_, zl3, zn3_, zl5, zn5_, zl9, zn9_, zl10, zn10_, zl16, zn16_, zl20, zn20_, zl40, zn40_, zl60, zn60_, zl76, zn76_, zl80, zn80_, zl288, zn288_, zl300, zn300_, zneg, Nat.reduceEqDiff, Nat.reduceAdd, ↓reduceIte]; rfl
  · simp (disch := omega) only [zup_eq, zput_app, zput_twice, upd_same, nI_1, za2, zA2, zm2, za3, zA3, zm3, za4, zA4, zm4, za9, zA9, zm9, za10, zA10, zm10, za18, zA18, zm18, za27, zA27, zm27, za36, zA36, zm36, za48, zA48, zm48, za288, zA288, zm288, zcl, zinT, upd_ne, upd_eq, zlt, znlt, zl2, zn2_, zl3, zn3_, zl5, zn5_, zl9, zn9_, zl10, zn10_, zl16, zn16_, zl20, zn20_, zl40, zn40_, zl60, zn60_, zl76, zn76_, zl80, zn80_, zl288, zn288_, zl300, zn300_, zneg, Nat.reduceEqDiff, Nat.reduceAdd, ↓reduceIte]; rfl
  · intro f hf; omega
theorem c_yawnAll23 {d : Nat} {σ : zS} {F : Nat} {fr : Bool} {r : Nat → Int32} (hF : σ 23 3 = nI F) (h9 : F ≤ 9) (hcm : CM 26 F r σ) (hTR : TR F r) {Q : Int32 → zS → Prop}
    (h : ∀ σ', Fr (pw 23) σ σ' → CM 26 F (ry fr r F) σ' → σ' 23 4 = bs (yw fr r) F → σ' 23 5 = bs (mw fr r) F → (∀ f, f < F → yw fr r f = true → σ' 31 f = r (27 + f)) → Q 0 σ') : ZC (d + 4) 78 [.ref 23, .int (b2i fr)] σ Q := by
  refine kx_78_0_i23 ?_
  refine z_for (F := F) (P := fun k => ∀ σ1, Fr (pw 23) σ σ1 → CM 26 F (ry fr r k) σ1 → σ1 23 4 = bs (yw fr r) k → σ1 23 5 = bs (mw fr r) k → (∀ f, f < k → yw fr r f = true → σ1 31 f = r (27 + f)) → ∀ w, Z (d + 3) 78 Q 12 [.ref 23, .int (b2i fr), .int (nI k), w] [] σ1) (fun k hk ih => ?_) ?_ _ ?_ ?_ ?_ ?_ ?_ _
  · intro σ1 f1 f2 f3 f4 f5 w
    have e3 : σ1 23 3 = nI F := (f1 23 3 (by decide)).trans hF
    have f2' := f2
    obtain ⟨g1, g2, g3, g4, g5⟩ := f2'
    obtain ⟨a1, a2, a3, a4, a5⟩ := g1 k hk
    obtain ⟨o1, o2, o3, o4, o5⟩ := ry_old (fr := fr) (r := r) k (by omega) k (Nat.le_refl k) (by omega)
    rw [o1] at a1; rw [o2] at a2; rw [o3] at a3; rw [o4] at a4; rw [o5] at a5
    rw [(ry_hi k (by omega)).1] at g4; rw [(ry_hi k (by omega)).2] at g5
    have skip : yw fr r k = false → ∀ x3 : Int32, Z (d + 3) 78 Q 181 [.ref 23, .int (b2i fr), .int (nI k), .int x3] [] σ1 := by
      intro hy x3
      refine kx_78_181_i23 ?_
      rw [nI_1]
      refine ih σ1 f1 ?_ ?_ ?_ ?_ _
      · unfold ry; rw [hy]; exact f2
      · rw [bs_1, hy]; exact f3
      · rw [bs_1, show mw fr r k = false by unfold mw; rw [hy]; rfl]; exact f4
      · intro f hf hyf
        by_cases hfk : f = k
        · subst hfk; rw [hy] at hyf; cases hyf
        · exact f5 f (by omega) hyf
    have yawns : yw fr r k = true → ∀ x3 : Int32, Z (d + 3) 78 Q 94 [.ref 23, .int (b2i fr), .int (nI k), .int x3] [] σ1 := by
      intro hy x3
      refine kx_78_94_i23 ?_
      simp (disch := omega) only [zup_eq, zput_app, zput_twice, upd_same, nI_1, za2, zA2, zm2, za3, zA3, zm3, za4, zA4, zm4, za9, zA9, zm9, za10, zA10, zm10, za18, zA18, zm18, za27, zA27, zm27, za36, zA36, zm36, za48, zA48, zm48, za288, zA288, zm288, zcl, zinT, upd_ne, upd_eq, zlt, znlt, zl2, zn2_, zl3, zn3_, zl5, zn5_, zl9, zn9_, zl10, zn10_, zl16, zn16_, zl20, zn20_, zl40, zn40_, zl60, zn60_, zl76, zn76_, zl80, zn80_, zl288, zn288_, zl300, zn300_, zneg, Nat.reduceEqDiff, Nat.reduceAdd, ↓reduceIte, s_bit, b2i_0]
      rw [zb_andbit _ (by omega), a5, a4, f3, f4]
      have hb1 : bs (yw fr r) k ||| zshl 1 (nI k) = bs (yw fr r) (k + 1) := by rw [bs_1, hy]; rfl
      have hb2 : (bs (mw fr r) k ||| if decide (r (36 + k) = 1) = true then zshl 1 (nI k) else 0) = bs (mw fr r) (k + 1) := by
        rw [bs_1]
        unfold mw
        rw [hy]
        by_cases hq : r (36 + k) = 1 <;> simp [hq]
      rw [hb1, hb2]
      generalize hσ2 : zput (zput σ1 23 (upd (upd (σ1 23) 4 (bs (yw fr r) (k + 1))) 5 (bs (mw fr r) (k + 1)))) 31 (upd (σ1 31) k (r (27 + k))) = σ2
      have c2 : CM 26 F (ry fr r k) σ2 := by
        refine CM.fr (p := fun o _ => decide (o = 23 ∨ o = 31)) f2 ?_ (fun o i h1 h2 => by simp; omega)
        rw [← hσ2]
        exact Fr.tr (Fr.put (fun i q => by simp at q)) (Fr.put (fun i q => by simp at q))
      have fr2 : Fr (pw 23) σ1 σ2 := by
        rw [← hσ2]
        refine Fr.tr (Fr.put (fun i q => ?_)) (Fr.put (fun i q => by simp [pw] at q))
        have hi : i ≠ 4 ∧ i ≠ 5 := by constructor <;> (rintro rfl; simp [pw] at q)
        rw [upd_ne hi.2, upd_ne hi.1]
      have h24 : σ2 23 4 = bs (yw fr r) (k + 1) := by rw [← hσ2]; simp (disch := omega) only [zup_eq, zput_app, zput_twice, upd_same, nI_1, za2, zA2, zm2, za3, zA3, zm3, za4, zA4, zm4, za9, zA9, zm9, za10, zA10, zm10, za18, zA18, zm18, za27, zA27, zm27, za36, zA36, zm36, za48, zA48, zm48, za288, zA288, zm288, zcl, zinT, upd_ne, upd_eq, zlt, znlt, zl2, zn2_, zl3, zn3_, zl5, zn5_, zl9, zn9_, zl10, zn10_, zl16, zn16_, zl20, zn20_, zl40, zn40_, zl60, zn60_, zl76, zn76_, zl80, zn80_, zl288, zn288_, zl300, zn300_, zneg, Nat.reduceEqDiff, Nat.reduceAdd, ↓reduceIte]
      have h25 : σ2 23 5 = bs (mw fr r) (k + 1) := by rw [← hσ2]; simp (disch := omega) only [zup_eq, zput_app, zput_twice, upd_same, nI_1, za2, zA2, zm2, za3, zA3, zm3, za4, zA4, zm4, za9, zA9, zm9, za10, zA10, zm10, za18, zA18, zm18, za27, zA27, zm27, za36, zA36, zm36, za48, zA48, zm48, za288, zA288, zm288, zcl, zinT, upd_ne, upd_eq, zlt, znlt, zl2, zn2_, zl3, zn3_, zl5, zn5_, zl9, zn9_, zl10, zn10_, zl16, zn16_, zl20, zn20_, zl40, zn40_, zl60, zn60_, zl76, zn76_, zl80, zn80_, zl288, zn288_, zl300, zn300_, zneg, Nat.reduceEqDiff, Nat.reduceAdd, ↓reduceIte]
      have h28 : ∀ f, f < k + 1 → yw fr r f = true → σ2 31 f = r (27 + f) := by
        intro f hf hyf
        rw [← hσ2]
        by_cases hfk : f = k
        · subst hfk; simp (disch := omega) only [zup_eq, zput_app, zput_twice, upd_same, nI_1, za2, zA2, zm2, za3, zA3, zm3, za4, zA4, zm4, za9, zA9, zm9, za10, zA10, zm10, za18, zA18, zm18, za27, zA27, zm27, za36, zA36, zm36, za48, zA48, zm48, za288, zA288, zm288, zcl, zinT, upd_ne, upd_eq, zlt, znlt, zl2, zn2_, zl3, zn3_, zl5, zn5_, zl9, zn9_, zl10, zn10_, zl16, zn16_, zl20, zn20_, zl40, zn40_, zl60, zn60_, zl76, zn76_, zl80, zn80_, zl288, zn288_, zl300, zn300_, zneg, Nat.reduceEqDiff, Nat.reduceAdd, ↓reduceIte]
        · simp (disch := omega) only [zup_eq, zput_app, zput_twice, upd_same, nI_1, za2, zA2, zm2, za3, zA3, zm3, za4, zA4, zm4, za9, zA9, zm9, za10, zA10, zm10, za18, zA18, zm18, za27, zA27, zm27, za36, zA36, zm36, za48, zA48, zm48, za288, zA288, zm288, zcl, zinT, upd_ne, upd_eq, zlt, znlt, zl2, zn2_, zl3, zn3_, zl5, zn5_, zl9, zn9_, zl10, zn10_, zl16, zn16_, zl20, zn20_, zl40, zn40_, zl60, zn60_, zl76, zn76_, zl80, zn80_, zl288, zn288_, zl300, zn300_, zneg, Nat.reduceEqDiff, Nat.reduceAdd, ↓reduceIte]; exact f5 f (by omega) hyf
      refine c_drop23 c2 h9 hk (fun σ3 fr3 c3 => ?_)
      have hy3 : σ3 28 k = r (9 + k) := by
        rw [(c3.1 k hk).2.1]; unfold gcl; simp (disch := omega) only [zup_eq, zput_app, zput_twice, upd_same, nI_1, za2, zA2, zm2, za3, zA3, zm3, za4, zA4, zm4, za9, zA9, zm9, za10, zA10, zm10, za18, zA18, zm18, za27, zA27, zm27, za36, zA36, zm36, za48, zA48, zm48, za288, zA288, zm288, zcl, zinT, upd_ne, upd_eq, zlt, znlt, zl2, zn2_, zl3, zn3_, zl5, zn5_, zl9, zn9_, zl10, zn10_, zl16, zn16_, zl20, zn20_, zl40, zn40_, zl60, zn60_, zl76, zn76_, zl80, zn80_, zl288, zn288_, zl300, zn300_, zneg, Nat.reduceEqDiff, Nat.reduceAdd, ↓reduceIte]; exact o2
      rw [hy3]
      generalize hσ4 : zput σ3 28 (upd (σ3 28) k (r (9 + k) + 1)) = σ4
      have c4 : CM 26 F (gyo (gcl (ry fr r k) k) k) σ4 := by
        obtain ⟨b1, b2, b3, b4, b5⟩ := c3
        rw [← hσ4]
        refine ⟨fun g hg => ?_, fun g hg hg2 => ?_, fun g hg hg2 => ?_, ?_, ?_⟩
        · obtain ⟨x1, x2, x3, x4, x5⟩ := b1 g hg
          unfold gyo
          by_cases hgk : g = k
          · subst hgk
            simp (disch := omega) only [zup_eq, zput_app, zput_twice, upd_same, nI_1, za2, zA2, zm2, za3, zA3, zm3, za4, zA4, zm4, za9, zA9, zm9, za10, zA10, zm10, za18, zA18, zm18, za27, zA27, zm27, za36, zA36, zm36, za48, zA48, zm48, za288, zA288, zm288, zcl, zinT, upd_ne, upd_eq, zlt, znlt, zl2, zn2_, zl3, zn3_, zl5, zn5_, zl9, zn9_, zl10, zn10_, zl16, zn16_, zl20, zn20_, zl40, zn40_, zl60, zn60_, zl76, zn76_, zl80, zn80_, zl288, zn288_, zl300, zn300_, zneg, Nat.reduceEqDiff, Nat.reduceAdd, ↓reduceIte, x1, x3, x4, x5]
            unfold gcl
            simp (disch := omega) only [zup_eq, zput_app, zput_twice, upd_same, nI_1, za2, zA2, zm2, za3, zA3, zm3, za4, zA4, zm4, za9, zA9, zm9, za10, zA10, zm10, za18, zA18, zm18, za27, zA27, zm27, za36, zA36, zm36, za48, zA48, zm48, za288, zA288, zm288, zcl, zinT, upd_ne, upd_eq, zlt, znlt, zl2, zn2_, zl3, zn3_, zl5, zn5_, zl9, zn9_, zl10, zn10_, zl16, zn16_, zl20, zn20_, zl40, zn40_, zl60, zn60_, zl76, zn76_, zl80, zn80_, zl288, zn288_, zl300, zn300_, zneg, Nat.reduceEqDiff, Nat.reduceAdd, ↓reduceIte, o2]
            simp
          · simp (disch := omega) only [zup_eq, zput_app, zput_twice, upd_same, nI_1, za2, zA2, zm2, za3, zA3, zm3, za4, zA4, zm4, za9, zA9, zm9, za10, zA10, zm10, za18, zA18, zm18, za27, zA27, zm27, za36, zA36, zm36, za48, zA48, zm48, za288, zA288, zm288, zcl, zinT, upd_ne, upd_eq, zlt, znlt, zl2, zn2_, zl3, zn3_, zl5, zn5_, zl9, zn9_, zl10, zn10_, zl16, zn16_, zl20, zn20_, zl40, zn40_, zl60, zn60_, zl76, zn76_, zl80, zn80_, zl288, zn288_, zl300, zn300_, zneg, Nat.reduceEqDiff, Nat.reduceAdd, ↓reduceIte, x1, x2, x3, x4, x5]
            simp
        · simp (disch := omega) only [zup_eq, zput_app, zput_twice, upd_same, nI_1, za2, zA2, zm2, za3, zA3, zm3, za4, zA4, zm4, za9, zA9, zm9, za10, zA10, zm10, za18, zA18, zm18, za27, zA27, zm27, za36, zA36, zm36, za48, zA48, zm48, za288, zA288, zm288, zcl, zinT, upd_ne, upd_eq, zlt, znlt, zl2, zn2_, zl3, zn3_, zl5, zn5_, zl9, zn9_, zl10, zn10_, zl16, zn16_, zl20, zn20_, zl40, zn40_, zl60, zn60_, zl76, zn76_, zl80, zn80_, zl288, zn288_, zl300, zn300_, zneg, Nat.reduceEqDiff, Nat.reduceAdd, ↓reduceIte]; exact b2 g hg hg2
        · simp (disch := omega) only [zup_eq, zput_app, zput_twice, upd_same, nI_1, za2, zA2, zm2, za3, zA3, zm3, za4, zA4, zm4, za9, zA9, zm9, za10, zA10, zm10, za18, zA18, zm18, za27, zA27, zm27, za36, zA36, zm36, za48, zA48, zm48, za288, zA288, zm288, zcl, zinT, upd_ne, upd_eq, zlt, znlt, zl2, zn2_, zl3, zn3_, zl5, zn5_, zl9, zn9_, zl10, zn10_, zl16, zn16_, zl20, zn20_, zl40, zn40_, zl60, zn60_, zl76, zn76_, zl80, zn80_, zl288, zn288_, zl300, zn300_, zneg, Nat.reduceEqDiff, Nat.reduceAdd, ↓reduceIte]; exact b3 g hg hg2
        · simp (disch := omega) only [zup_eq, zput_app, zput_twice, upd_same, nI_1, za2, zA2, zm2, za3, zA3, zm3, za4, zA4, zm4, za9, zA9, zm9, za10, zA10, zm10, za18, zA18, zm18, za27, zA27, zm27, za36, zA36, zm36, za48, zA48, zm48, za288, zA288, zm288, zcl, zinT, upd_ne, upd_eq, zlt, znlt, zl2, zn2_, zl3, zn3_, zl5, zn5_, zl9, zn9_, zl10, zn10_, zl16, zn16_, zl20, zn20_, zl40, zn40_, zl60, zn60_, zl76, zn76_, zl80, zn80_, zl288, zn288_, zl300, zn300_, zneg, Nat.reduceEqDiff, Nat.reduceAdd, ↓reduceIte, gyo]; exact b4
        · simp (disch := omega) only [zup_eq, zput_app, zput_twice, upd_same, nI_1, za2, zA2, zm2, za3, zA3, zm3, za4, zA4, zm4, za9, zA9, zm9, za10, zA10, zm10, za18, zA18, zm18, za27, zA27, zm27, za36, zA36, zm36, za48, zA48, zm48, za288, zA288, zm288, zcl, zinT, upd_ne, upd_eq, zlt, znlt, zl2, zn2_, zl3, zn3_, zl5, zn5_, zl9, zn9_, zl10, zn10_, zl16, zn16_, zl20, zn20_, zl40, zn40_, zl60, zn60_, zl76, zn76_, zl80, zn80_, zl288, zn288_, zl300, zn300_, zneg, Nat.reduceEqDiff, Nat.reduceAdd, ↓reduceIte, gyo]; exact b5
      have fr4 : Fr (pm 26) σ3 σ4 := by
        rw [← hσ4]; exact Fr.put (fun i q => by simp [pm] at q)
      have done : ∀ σ5, Fr (pm 26) σ4 σ5 → CM 26 F (ry fr r (k + 1)) σ5 → Z (d + 3) 78 Q 181 [.ref 23, .int (b2i fr), .int (nI k), .int x3] [] σ5 := by
        intro σ5 fr5 c5
        refine kx_78_181_i23 ?_
        rw [nI_1]
        have fr25 : Fr (pm 26) σ2 σ5 := Fr.tr fr3 (Fr.tr fr4 fr5)
        refine ih σ5 (Fr.tr f1 (Fr.tr fr2 (Fr.pm_pw fr25))) c5 ?_ ?_ ?_ _
        · exact (fr25 23 4 (by decide)).trans h24
        · exact (fr25 23 5 (by decide)).trans h25
        · intro f hf hyf
          exact (fr25 31 f (by simp [pm])).trans (h28 f hf hyf)
      obtain ⟨n, hn, en⟩ := hTR k hk
      have ek : gyo (gcl (ry fr r k) k) k k = nI n := by
        unfold gyo gcl
        simp (disch := omega) only [zup_eq, zput_app, zput_twice, upd_same, nI_1, za2, zA2, zm2, za3, zA3, zm3, za4, zA4, zm4, za9, zA9, zm9, za10, zA10, zm10, za18, zA18, zm18, za27, zA27, zm27, za36, zA36, zm36, za48, zA48, zm48, za288, zA288, zm288, zcl, zinT, upd_ne, upd_eq, zlt, znlt, zl2, zn2_, zl3, zn3_, zl5, zn5_, zl9, zn9_, zl10, zn10_, zl16, zn16_, zl20, zn20_, zl40, zn40_, zl60, zn60_, zl76, zn76_, zl80, zn80_, zl288, zn288_, zl300, zn300_, zneg, Nat.reduceEqDiff, Nat.reduceAdd, ↓reduceIte]
        rw [o1, en]
      have eqr : ∀ i, i < 47 → upd (gyo (gcl (ry fr r k) k) k) k (if fr = false then mx0 (nI n - 1) else nI n) i = ry fr r (k + 1) i := by
        intro i hi
        conv => rhs; unfold ry
        rw [hy]
        simp only [↓reduceIte]
        rw [gy_at (by omega) hi]
        simp only [upd_app, gyo, gcl]
        by_cases h1 : i = k
        · subst h1
          have n1 : ¬ (i = 18 + i ∨ i = 27 + i) := by omega
          have n2 : ¬ (i = 36 + i) := by omega
          have n3 : ¬ (i = 9 + i) := by omega
          simp only [n1, n2, n3, ↓reduceIte, o1, en]
          cases fr <;> simp
        · by_cases h2 : i = 18 + k
          · subst h2; simp [h1]
          · by_cases h3 : i = 27 + k
            · subst h3; simp [h1]
            · by_cases h4 : i = 36 + k
              · subst h4; simp [h1]
              · by_cases h5 : i = 9 + k
                · subst h5; simp [h1]
                · simp [h1, h2, h3, h4, h5]
      cases fr
      · rw [if_pos rfl]
        refine c_tire23 c4 h9 hk _ (fun σ5 fr5 c5 => ?_)
        rw [ek, (mxn n hn).1] at c5
        exact done σ5 fr5 (CM.congr h9 c5 eqr)
      · rw [if_neg (by decide)]
        refine c_tire23 c4 h9 hk _ (fun σ5 fr5 c5 => ?_)
        rw [ek, (mxn n hn).2.1] at c5
        exact done σ5 fr5 (CM.congr h9 c5 eqr)
    have at57 : ∀ b : Bool, (b = true → yw fr r k = !zb (r 45) k) → (b = false → yw fr r k = (!zb (r 45) k && decide (r (18 + k) = r 46))) → Z (d + 3) 78 Q 57 [.ref 23, .int (b2i fr), .int (nI k), .int (b2i b)] [] σ1 := by
      intro b hb1 hb2
      refine kx_78_57_i23 ?_
      rw [g4]
      simp (disch := omega) only [zup_eq, zput_app, zput_twice, upd_same, nI_1, za2, zA2, zm2, za3, zA3, zm3, za4, zA4, zm4, za9, zA9, zm9, za10, zA10, zm10, za18, zA18, zm18, za27, zA27, zm27, za36, zA36, zm36, za48, zA48, zm48, za288, zA288, zm288, zcl, zinT, upd_ne, upd_eq, zlt, znlt, zl2, zn2_, zl3, zn3_, zl5, zn5_, zl9, zn9_, zl10, zn10_, zl16, zn16_, zl20, zn20_, zl40, zn40_, zl60, zn60_, zl76, zn76_, zl80, zn80_, zl288, zn288_, zl300, zn300_, zneg, Nat.reduceEqDiff, Nat.reduceAdd, ↓reduceIte, s_hasN, b2i_0, a3, g5]
      cases hz : zb (r 45) k
      · cases b
        · simp only [↓reduceIte]
          by_cases hd : r (18 + k) = r 46
          · rw [if_pos hd]
            exact yawns (by rw [hb2 rfl, hz, hd]; simp) _
          · rw [if_neg hd]
            exact skip (by rw [hb2 rfl]; simp [hd]) _
        · simp only [↓reduceIte, Bool.true_eq_false]
          exact yawns (by rw [hb1 rfl, hz]; rfl) _
      · simp only [↓reduceIte, Bool.true_eq_false]
        refine skip ?_ _
        unfold yw
        rw [hz]; rfl
    refine kx_78_12_i23 ?_
    simp (disch := omega) only [zup_eq, zput_app, zput_twice, upd_same, nI_1, za2, zA2, zm2, za3, zA3, zm3, za4, zA4, zm4, za9, zA9, zm9, za10, zA10, zm10, za18, zA18, zm18, za27, zA27, zm27, za36, zA36, zm36, za48, zA48, zm48, za288, zA288, zm288, zcl, zinT, upd_ne, upd_eq, zlt, znlt, zl2, zn2_, zl3, zn3_, zl5, zn5_, zl9, zn9_, zl10, zn10_, zl16, zn16_, zl20, zn20_, zl40, zn40_, zl60, zn60_, zl76, zn76_, zl80, zn80_, zl288, zn288_, zl300, zn300_, zneg, Nat.reduceEqDiff, Nat.reduceAdd, ↓reduceIte, e3, b2i_0, a1, a3]
    have n1 : (Value.int 1) = .int (b2i true) := rfl
    have n0 : (Value.int 0) = .int (b2i false) := rfl
    rw [n1, n0]
    cases hfr : fr
    · subst hfr
      simp only [↓reduceIte]
      by_cases q1 : r k = 9
      · by_cases q2 : r (18 + k) = -1
        · simp only [q1, q2, ↓reduceIte]
          exact at57 true (fun _ => by unfold yw; simp [q1, q2]) (fun q => by cases q)
        · simp only [q1, q2, ↓reduceIte]
          exact at57 false (fun q => by cases q) (fun _ => by unfold yw; simp [q2])
      · simp only [q1, ↓reduceIte]
        exact at57 false (fun q => by cases q) (fun _ => by unfold yw; simp [q1])
    · subst hfr
      simp only [↓reduceIte, Bool.true_eq_false]
      exact at57 false (fun q => by cases q) (fun _ => by unfold yw; simp)
  · intro σ1 f1 f2 f3 f4 f5 w
    have e3 : σ1 23 3 = nI F := (f1 23 3 (by decide)).trans hF
    refine kx_78_12_i23 ?_
    simp (disch := omega) only [zup_eq, zput_app, zput_twice, upd_same, nI_1, za2, zA2, zm2, za3, zA3, zm3, za4, zA4, zm4, za9, zA9, zm9, za10, zA10, zm10, za18, zA18, zm18, za27, zA27, zm27, za36, zA36, zm36, za48, zA48, zm48, za288, zA288, zm288, zcl, zinT, upd_ne, upd_eq, zlt, znlt, zl2, zn2_, zl3, zn3_, zl5, zn5_, zl9, zn9_, zl10, zn10_, zl16, zn16_, zl20, zn20_, zl40, zn40_, zl60, zn60_, zl76, zn76_, zl80, zn80_, zl288, zn288_, zl300, zn300_, zneg, Nat.reduceEqDiff, Nat.reduceAdd, ↓reduceIte, e3]
    exact h σ1 f1 f2 f3 f4 f5
  · refine Fr.tr (Fr.up (by decide)) (Fr.up (by decide))
  · refine CM.fr (p := fun o _ => decide (o = 23)) hcm ?_ (fun o i h1 h2 => by simp; omega)
    exact Fr.tr (Fr.up (by decide)) (Fr.up (by decide))
  · simp (disch := omega) only [zup_eq, zput_app, zput_twice, upd_same, nI_1, za2, zA2, zm2, za3, zA3, zm3, za4, zA4, zm4, za9, zA9, zm9, za10, zA10, zm10, za18, zA18, zm18, za27, zA27, zm27, za36, zA36, zm36, za48, zA48, zm48, za288, zA288, zm288, zcl, zinT, upd_ne, upd_eq, zlt, znlt, zl2, zn2_, zl3, zn3_, zl5, zn5_, zl9, zn9_, zl10, zn10_, zl16, zn16_, zl20, zn20_, zl40, zn40_, zl60, zn60_, zl76, zn76_, zl80, zn80_, zl288, zn288_, zl300, zn300_, zneg, Nat.reduceEqDiff, Nat.reduceAdd, ↓reduceIte]; rfl
  · simp (disch := omega) only [zup_eq, zput_app, zput_twice, upd_same, nI_1, za2, zA2, zm2, za3, zA3, zm3, za4, zA4, zm4, za9, zA9, zm9, za10, zA10, zm10, za18, zA18, zm18, za27, zA27, zm27, za36, zA36, zm36, za48, zA48, zm48, za288, zA288, zm288, zcl, zinT, upd_ne, upd_eq, zlt, znlt, zl2, zn2_, zl3, zn3_, zl5, zn5_, zl9, zn9_, zl10, zn10_, zl16, zn16_, zl20, zn20_, zl40, zn40_, zl60, zn60_, zl76, zn76_, zl80, zn80_, zl288, zn288_, zl300, zn300_, zneg, Nat.reduceEqDiff, Nat.reduceAdd, ↓reduceIte]; rfl
  · intro f hf; omega
