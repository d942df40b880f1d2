/-! the class's minute, whole -/
theorem r3_TR {c : MC} {fr : Bool} {r : Nat → Int32} (h9 : c.1 ≤ 9) (h : TR c.1 r) : TR c.1 (r3 c fr r) := by
  intro f hf
  unfold r3
  rw [rc_hi (Or.inl (by omega)) c.1 h9]
  exact ry_TR h9 h c.1 h9 f hf
theorem ms_TR {c : MC} {fr : Bool} {r : Nat → Int32} (h9 : c.1 ≤ 9) (h : TR c.1 r) : TR c.1 (ms c fr r) := by
  intro f hf
  unfold ms
  rw [upd_ne (by omega)]
  obtain ⟨n, hn, e⟩ := r3_TR (fr := fr) h9 h f hf
  split
  · rw [show rt (r3 c fr r) c.1 f = mn9 (r3 c fr r f + 1) from if_pos hf, e]
    exact (mxr n hn).2
  · exact ⟨n, hn, e⟩
theorem b2i_n (b : Bool) : (b2i b = 0) = ((b = true) = False) := by cases b <;> simp [b2i]
theorem c_pass14 {d : Nat} {σ : zS} {t : Nat} {c : MC} {fr : Bool} {r : Nat → Int32} (hc : CW 14 c σ) (hk : HK (d + 2) c.2.2.2.1 σ) (hv : RVC c.2.2.2.1) (hcm : CM 17 c.1 r σ) (hTR : TR c.1 r) (ht : r 46 = nI t) (htb : t < 1073741824) {Q : Int32 → zS → Prop}
    (h : ∀ σ', Fr (pw 14) σ σ' → CM 17 c.1 (ms c fr r) σ' → σ' 14 4 = ysS c fr r → σ' 14 5 = msS c fr r → σ' 14 6 = cbS c fr r → (∀ f, f < c.1 → yw fr r f = true → σ' 22 f = r (27 + f)) → Q 0 σ') : ZC (d + 5) 77 [.ref 14, .int (b2i fr)] σ Q := by
  have h9 : c.1 ≤ 9 := hc.2.1
  refine k_77_0_i14 ?_
  refine c_yawnAll14 hc.1 h9 hcm hTR (fun σ1 f1 c1 y1 m1 l1 => ?_)
  have hc1 := CW.fr (Or.inl rfl) hc f1
  have t1 : ry fr r c.1 46 = nI t := by rw [(ry_hi c.1 h9).2]; exact ht
  refine c_catchAll14 hc1 (fun σ' q1 q2 => hk σ' (q1.trans (f1 3 2 (by decide))) (q2.trans (funext fun i => f1 5 i (by simp [pw])))) hv c1 t1 htb (fun σ2 f2 c2 y2 m2 k2 l2 => ?_)
  rw [y1, m1] at c2 k2
  have c2' : CM 17 c.1 (r3 c fr r) σ2 := c2
  have f12 := Fr.tr f1 f2
  have e46 : σ2 17 6 = nI t := by
    rw [c2'.2.2.2.2]; unfold r3
    rw [rc_hi (Or.inr (by omega)) c.1 h9]; exact t1
  have q46 : r3 c fr r 46 = nI t := by rw [← c2'.2.2.2.2]; exact e46
  rw [e46]
  generalize hσ3 : zup σ2 17 6 (nI t + 1) = σ3
  have f3 : Fr (pm 17) σ2 σ3 := by rw [← hσ3]; exact Fr.up (by decide)
  have c3 : CM 17 c.1 (upd (r3 c fr r) 46 (nI t + 1)) σ3 := by
    obtain ⟨b1, b2, b3, b4, b5⟩ := c2'
    rw [← hσ3]
    refine ⟨fun g hg => ?_, fun g hg hg2 => ?_, fun g hg hg2 => ?_, ?_, ?_⟩
    · simp (disch := omega) only [zup_eq, zput_app, zput_twice, upd_same, nI_1, za2, zA2, zm2, za3, zA3, zm3, za4, zA4, zm4, za9, zA9, zm9, za10, zA10, zm10, za18, zA18, zm18, za27, zA27, zm27, za36, zA36, zm36, za48, zA48, zm48, za288, zA288, zm288, zcl, zinT, upd_ne, upd_eq, zlt, znlt, zl2, zn2_, zl3, zn3_, zl5, zn5_, zl9, zn9_, zl10, zn10_, zl16, zn16_, zl20, zn20_, zl40, zn40_, zl60, zn60_, zl76, zn76_, zl80, zn80_, zl288, zn288_, zl300, zn300_, zneg, Nat.reduceEqDiff, Nat.reduceAdd, ↓reduceIte]; exact b1 g hg
    · simp (disch := omega) only [zup_eq, zput_app, zput_twice, upd_same, nI_1, za2, zA2, zm2, za3, zA3, zm3, za4, zA4, zm4, za9, zA9, zm9, za10, zA10, zm10, za18, zA18, zm18, za27, zA27, zm27, za36, zA36, zm36, za48, zA48, zm48, za288, zA288, zm288, zcl, zinT, upd_ne, upd_eq, zlt, znlt, zl2, zn2_, zl3, zn3_, zl5, zn5_, zl9, zn9_, zl10, zn10_, zl16, zn16_, zl20, zn20_, zl40, zn40_, zl60, zn60_, zl76, zn76_, zl80, zn80_, zl288, zn288_, zl300, zn300_, zneg, Nat.reduceEqDiff, Nat.reduceAdd, ↓reduceIte]; exact b2 g hg hg2
    · simp (disch := omega) only [zup_eq, zput_app, zput_twice, upd_same, nI_1, za2, zA2, zm2, za3, zA3, zm3, za4, zA4, zm4, za9, zA9, zm9, za10, zA10, zm10, za18, zA18, zm18, za27, zA27, zm27, za36, zA36, zm36, za48, zA48, zm48, za288, zA288, zm288, zcl, zinT, upd_ne, upd_eq, zlt, znlt, zl2, zn2_, zl3, zn3_, zl5, zn5_, zl9, zn9_, zl10, zn10_, zl16, zn16_, zl20, zn20_, zl40, zn40_, zl60, zn60_, zl76, zn76_, zl80, zn80_, zl288, zn288_, zl300, zn300_, zneg, Nat.reduceEqDiff, Nat.reduceAdd, ↓reduceIte]; exact b3 g hg hg2
    · simp (disch := omega) only [zup_eq, zput_app, zput_twice, upd_same, nI_1, za2, zA2, zm2, za3, zA3, zm3, za4, zA4, zm4, za9, zA9, zm9, za10, zA10, zm10, za18, zA18, zm18, za27, zA27, zm27, za36, zA36, zm36, za48, zA48, zm48, za288, zA288, zm288, zcl, zinT, upd_ne, upd_eq, zlt, znlt, zl2, zn2_, zl3, zn3_, zl5, zn5_, zl9, zn9_, zl10, zn10_, zl16, zn16_, zl20, zn20_, zl40, zn40_, zl60, zn60_, zl76, zn76_, zl80, zn80_, zl288, zn288_, zl300, zn300_, zneg, Nat.reduceEqDiff, Nat.reduceAdd, ↓reduceIte]; exact b4
    · simp (disch := omega) only [zup_eq, zput_app, zput_twice, upd_same, nI_1, za2, zA2, zm2, za3, zA3, zm3, za4, zA4, zm4, za9, zA9, zm9, za10, zA10, zm10, za18, zA18, zm18, za27, zA27, zm27, za36, zA36, zm36, za48, zA48, zm48, za288, zA288, zm288, zcl, zinT, upd_ne, upd_eq, zlt, znlt, zl2, zn2_, zl3, zn3_, zl5, zn5_, zl9, zn9_, zl10, zn10_, zl16, zn16_, zl20, zn20_, zl40, zn40_, zl60, zn60_, zl76, zn76_, zl80, zn80_, zl288, zn288_, zl300, zn300_, zneg, Nat.reduceEqDiff, Nat.reduceAdd, ↓reduceIte]
  have fin : ∀ (σ4 : zS) (q : Nat → Int32), Fr (pm 17) σ3 σ4 → CM 17 c.1 q σ4 → (∀ i, i < 47 → q i = ms c fr r i) → Q 0 σ4 := by
    intro σ4 q f4 c4 hq
    have f34 := Fr.tr f3 f4
    refine h σ4 (Fr.tr f12 (Fr.pm_pw f34)) (CM.congr h9 c4 hq) ?_ ?_ ?_ ?_
    · exact (f34 14 4 (by decide)).trans (y2.trans y1)
    · exact (f34 14 5 (by decide)).trans (m2.trans m1)
    · exact (f34 14 6 (by decide)).trans k2
    · intro f hf hy
      exact (f34 22 f (by simp [pm])).trans ((l2 f).trans (l1 f hf hy))
  have loop : zrem (nI t + 1) 10 = 0 ∧ fr = false → Z (d + 4) 77 Q 41 [.ref 14, .int (b2i fr), .int (nI 0)] [] σ3 := by
    intro hcond
    refine z_for (F := c.1) (P := fun k => ∀ σ4, Fr (pm 17) σ3 σ4 → CM 17 c.1 (rt (upd (r3 c fr r) 46 (nI t + 1)) k) σ4 → Z (d + 4) 77 Q 41 [.ref 14, .int (b2i fr), .int (nI k)] [] σ4) (fun k hk' ih => ?_) ?_ σ3 Fr.rf c3
    · intro σ4 f4 c4
      have e3 : σ4 14 3 = nI c.1 := (f4 14 3 (by decide)).trans ((f3 14 3 (by decide)).trans ((f12 14 3 (by decide)).trans hc.1))
      refine k_77_41_i14 ?_
      simp (disch := omega) only [zup_eq, zput_app, zput_twice, upd_same, nI_1, za2, zA2, zm2, za3, zA3, zm3, za4, zA4, zm4, za9, zA9, zm9, za10, zA10, zm10, za18, zA18, zm18, za27, zA27, zm27, za36, zA36, zm36, za48, zA48, zm48, za288, zA288, zm288, zcl, zinT, upd_ne, upd_eq, zlt, znlt, zl2, zn2_, zl3, zn3_, zl5, zn5_, zl9, zn9_, zl10, zn10_, zl16, zn16_, zl20, zn20_, zl40, zn40_, zl60, zn60_, zl76, zn76_, zl80, zn80_, zl288, zn288_, zl300, zn300_, zneg, Nat.reduceEqDiff, Nat.reduceAdd, ↓reduceIte, e3]
      refine c_tire14 c4 h9 hk' _ (fun σ5 f5 c5 => ?_)
      refine ih σ5 (Fr.tr f4 f5) ?_
      have ek : rt (upd (r3 c fr r) 46 (nI t + 1)) k k = r3 c fr r k := by
        rw [show rt (upd (r3 c fr r) 46 (nI t + 1)) k k = upd (r3 c fr r) 46 (nI t + 1) k from if_neg (by omega), upd_ne (by omega)]
      obtain ⟨n, hn, en⟩ := r3_TR (fr := fr) h9 hTR k hk'
      rw [ek, en, (mxn n hn).2.2] at c5
      rw [rt_1, upd_ne (by omega), en]
      exact c5
    · intro σ4 f4 c4
      have e3 : σ4 14 3 = nI c.1 := (f4 14 3 (by decide)).trans ((f3 14 3 (by decide)).trans ((f12 14 3 (by decide)).trans hc.1))
      refine k_77_41_i14 ?_
      simp (disch := omega) only [zup_eq, zput_app, zput_twice, upd_same, nI_1, za2, zA2, zm2, za3, zA3, zm3, za4, zA4, zm4, za9, zA9, zm9, za10, zA10, zm10, za18, zA18, zm18, za27, zA27, zm27, za36, zA36, zm36, za48, zA48, zm48, za288, zA288, zm288, zcl, zinT, upd_ne, upd_eq, zlt, znlt, zl2, zn2_, zl3, zn3_, zl5, zn5_, zl9, zn9_, zl10, zn10_, zl16, zn16_, zl20, zn20_, zl40, zn40_, zl60, zn60_, zl76, zn76_, zl80, zn80_, zl288, zn288_, zl300, zn300_, zneg, Nat.reduceEqDiff, Nat.reduceAdd, ↓reduceIte, e3]
      refine fin σ4 _ f4 c4 (fun i hi => ?_)
      unfold ms
      rw [if_pos ⟨by rw [ht]; exact hcond.1, hcond.2⟩, ht]
      simp only [rt, upd]
      by_cases h1 : i = 46
      · subst h1; rw [if_neg (by omega), if_pos rfl]; rfl
      · by_cases h2 : i < c.1
        · simp only [h1, h2, ↓reduceIte]
        · simp only [h1, h2, ↓reduceIte]
  have fin2 : ¬ (zrem (nI t + 1) 10 = 0 ∧ fr = false) → Q 0 σ3 := by
    intro hcond
    refine fin σ3 _ Fr.rf c3 (fun i hi => ?_)
    unfold ms
    rw [if_neg (fun q => hcond ⟨by rw [← ht]; exact q.1, q.2⟩), ht]
  cases fr
  · rw [if_pos (by decide)]
    by_cases hz : zrem (nI t + 1) 10 = 0
    · rw [if_pos hz]; exact loop ⟨hz, rfl⟩
    · rw [if_neg hz]; exact fin2 (fun q => hz q.1)
  · rw [if_neg (by decide)]
    exact fin2 (fun q => by cases q.2)
theorem c_pass23 {d : Nat} {σ : zS} {t : Nat} {c : MC} {fr : Bool} {r : Nat → Int32} (hc : CW 23 c σ) (hk : HK (d + 2) c.2.2.2.1 σ) (hv : RVC c.2.2.2.1) (hcm : CM 26 c.1 r σ) (hTR : TR c.1 r) (ht : r 46 = nI t) (htb : t < 1073741824) {Q : Int32 → zS → Prop}
    (h : ∀ σ', Fr (pw 23) σ σ' → CM 26 c.1 (ms c fr r) σ' → σ' 23 4 = ysS c fr r → σ' 23 5 = msS c fr r → σ' 23 6 = cbS c fr r → (∀ f, f < c.1 → yw fr r f = true → σ' 31 f = r (27 + f)) → Q 0 σ') : ZC (d + 5) 77 [.ref 23, .int (b2i fr)] σ Q := by
  have h9 : c.1 ≤ 9 := hc.2.1
  refine k_77_0_i23 ?_
  refine c_yawnAll23 hc.1 h9 hcm hTR (fun σ1 f1 c1 y1 m1 l1 => ?_)
  have hc1 := CW.fr (Or.inr rfl) hc f1
  have t1 : ry fr r c.1 46 = nI t := by rw [(ry_hi c.1 h9).2]; exact ht
  refine c_catchAll23 hc1 (fun σ' q1 q2 => hk σ' (q1.trans (f1 3 2 (by decide))) (q2.trans (funext fun i => f1 5 i (by simp [pw])))) hv c1 t1 htb (fun σ2 f2 c2 y2 m2 k2 l2 => ?_)
  rw [y1, m1] at c2 k2
  have c2' : CM 26 c.1 (r3 c fr r) σ2 := c2
  have f12 := Fr.tr f1 f2
  have e46 : σ2 26 6 = nI t := by
    rw [c2'.2.2.2.2]; unfold r3
    rw [rc_hi (Or.inr (by omega)) c.1 h9]; exact t1
  have q46 : r3 c fr r 46 = nI t := by rw [← c2'.2.2.2.2]; exact e46
  rw [e46]
  generalize hσ3 : zup σ2 26 6 (nI t + 1) = σ3
  have f3 : Fr (pm 26) σ2 σ3 := by rw [← hσ3]; exact Fr.up (by decide)
  have c3 : CM 26 c.1 (upd (r3 c fr r) 46 (nI t + 1)) σ3 := by
    obtain ⟨b1, b2, b3, b4, b5⟩ := c2'
    rw [← hσ3]
    refine ⟨fun g hg => ?_, fun g hg hg2 => ?_, fun g hg hg2 => ?_, ?_, ?_⟩
    · simp (disch := omega) only [zup_eq, zput_app, zput_twice, upd_same, nI_1, za2, zA2, zm2, za3, zA3, zm3, za4, zA4, zm4, za9, zA9, zm9, za10, zA10, zm10, za18, zA18, zm18, za27, zA27, zm27, za36, zA36, zm36, za48, zA48, zm48, za288, zA288, zm288, zcl, zinT, upd_ne, upd_eq, zlt, znlt, zl2, zn2_, zl3, zn3_, zl5, zn5_, zl9, zn9_, zl10, zn10_, zl16, zn16_, zl20, zn20_, zl40, zn40_, zl60, zn60_, zl76, zn76_, zl80, zn80_, zl288, zn288_, zl300, zn300_, zneg, Nat.reduceEqDiff, Nat.reduceAdd, ↓reduceIte]; exact b1 g hg
    · simp (disch := omega) only [zup_eq, zput_app, zput_twice, upd_same, nI_1, za2, zA2, zm2, za3, zA3, zm3, za4, zA4, zm4, za9, zA9, zm9, za10, zA10, zm10, za18, zA18, zm18, za27, zA27, zm27, za36, zA36, zm36, za48, zA48, zm48, za288, zA288, zm288, zcl, zinT, upd_ne, upd_eq, zlt, znlt, zl2, zn2_, zl3, zn3_, zl5, zn5_, zl9, zn9_, zl10, zn10_, zl16, zn16_, zl20, zn20_, zl40, zn40_, zl60, zn60_, zl76, zn76_, zl80, zn80_, zl288, zn288_, zl300, zn300_, zneg, Nat.reduceEqDiff, Nat.reduceAdd, ↓reduceIte]; exact b2 g hg hg2
    · simp (disch := omega) only [zup_eq, zput_app, zput_twice, upd_same, nI_1, za2, zA2, zm2, za3, zA3, zm3, za4, zA4, zm4, za9, zA9, zm9, za10, zA10, zm10, za18, zA18, zm18, za27, zA27, zm27, za36, zA36, zm36, za48, zA48, zm48, za288, zA288, zm288, zcl, zinT, upd_ne, upd_eq, zlt, znlt, zl2, zn2_, zl3, zn3_, zl5, zn5_, zl9, zn9_, zl10, zn10_, zl16, zn16_, zl20, zn20_, zl40, zn40_, zl60, zn60_, zl76, zn76_, zl80, zn80_, zl288, zn288_, zl300, zn300_, zneg, Nat.reduceEqDiff, Nat.reduceAdd, ↓reduceIte]; exact b3 g hg hg2
    · simp (disch := omega) only [zup_eq, zput_app, zput_twice, upd_same, nI_1, za2, zA2, zm2, za3, zA3, zm3, za4, zA4, zm4, za9, zA9, zm9, za10, zA10, zm10, za18, zA18, zm18, za27, zA27, zm27, za36, zA36, zm36, za48, zA48, zm48, za288, zA288, zm288, zcl, zinT, upd_ne, upd_eq, zlt, znlt, zl2, zn2_, zl3, zn3_, zl5, zn5_, zl9, zn9_, zl10, zn10_, zl16, zn16_, zl20, zn20_, zl40, zn40_, zl60, zn60_, zl76, zn76_, zl80, zn80_, zl288, zn288_, zl300, zn300_, zneg, Nat.reduceEqDiff, Nat.reduceAdd, ↓reduceIte]; exact b4
    · simp (disch := omega) only [zup_eq, zput_app, zput_twice, upd_same, nI_1, za2, zA2, zm2, za3, zA3, zm3, za4, zA4, zm4, za9, zA9, zm9, za10, zA10, zm10, za18, zA18, zm18, za27, zA27, zm27, za36, zA36, zm36, za48, zA48, zm48, za288, zA288, zm288, zcl, zinT, upd_ne, upd_eq, zlt, znlt, zl2, zn2_, zl3, zn3_, zl5, zn5_, zl9, zn9_, zl10, zn10_, zl16, zn16_, zl20, zn20_, zl40, zn40_, zl60, zn60_, zl76, zn76_, zl80, zn80_, zl288, zn288_, zl300, zn300_, zneg, Nat.reduceEqDiff, Nat.reduceAdd, ↓reduceIte]
  have fin : ∀ (σ4 : zS) (q : Nat → Int32), Fr (pm 26) σ3 σ4 → CM 26 c.1 q σ4 → (∀ i, i < 47 → q i = ms c fr r i) → Q 0 σ4 := by
    intro σ4 q f4 c4 hq
    have f34 := Fr.tr f3 f4
    refine h σ4 (Fr.tr f12 (Fr.pm_pw f34)) (CM.congr h9 c4 hq) ?_ ?_ ?_ ?_
    · exact (f34 23 4 (by decide)).trans (y2.trans y1)
    · exact (f34 23 5 (by decide)).trans (m2.trans m1)
    · exact (f34 23 6 (by decide)).trans k2
    · intro f hf hy
      exact (f34 31 f (by simp [pm])).trans ((l2 f).trans (l1 f hf hy))
  have loop : zrem (nI t + 1) 10 = 0 ∧ fr = false → Z (d + 4) 77 Q 41 [.ref 23, .int (b2i fr), .int (nI 0)] [] σ3 := by
    intro hcond
    refine z_for (F := c.1) (P := fun k => ∀ σ4, Fr (pm 26) σ3 σ4 → CM 26 c.1 (rt (upd (r3 c fr r) 46 (nI t + 1)) k) σ4 → Z (d + 4) 77 Q 41 [.ref 23, .int (b2i fr), .int (nI k)] [] σ4) (fun k hk' ih => ?_) ?_ σ3 Fr.rf c3
    · intro σ4 f4 c4
      have e3 : σ4 23 3 = nI c.1 := (f4 23 3 (by decide)).trans ((f3 23 3 (by decide)).trans ((f12 23 3 (by decide)).trans hc.1))
      refine k_77_41_i23 ?_
      simp (disch := omega) only [zup_eq, zput_app, zput_twice, upd_same, nI_1, za2, zA2, zm2, za3, zA3, zm3, za4, zA4, zm4, za9, zA9, zm9, za10, zA10, zm10, za18, zA18, zm18, za27, zA27, zm27, za36, zA36, zm36, za48, zA48, zm48, za288, zA288, zm288, zcl, zinT, upd_ne, upd_eq, zlt, znlt, zl2, zn2_, zl3, zn3_, zl5, zn5_, zl9, zn9_, zl10, zn10_, zl16, zn16_, zl20, zn20_, zl40, zn40_, zl60, zn60_, zl76, zn76_, zl80, zn80_, zl288, zn288_, zl300, zn300_, zneg, Nat.reduceEqDiff, Nat.reduceAdd, ↓reduceIte, e3]
      refine c_tire23 c4 h9 hk' _ (fun σ5 f5 c5 => ?_)
      refine ih σ5 (Fr.tr f4 f5) ?_
      have ek : rt (upd (r3 c fr r) 46 (nI t + 1)) k k = r3 c fr r k := by
        rw [show rt (upd (r3 c fr r) 46 (nI t + 1)) k k = upd (r3 c fr r) 46 (nI t + 1) k from if_neg (by omega), upd_ne (by omega)]
      obtain ⟨n, hn, en⟩ := r3_TR (fr := fr) h9 hTR k hk'
      rw [ek, en, (mxn n hn).2.2] at c5
      rw [rt_1, upd_ne (by omega), en]
      exact c5
    · intro σ4 f4 c4
      have e3 : σ4 23 3 = nI c.1 := (f4 23 3 (by decide)).trans ((f3 23 3 (by decide)).trans ((f12 23 3 (by decide)).trans hc.1))
      refine k_77_41_i23 ?_
      simp (disch := omega) only [zup_eq, zput_app, zput_twice, upd_same, nI_1, za2, zA2, zm2, za3, zA3, zm3, za4, zA4, zm4, za9, zA9, zm9, za10, zA10, zm10, za18, zA18, zm18, za27, zA27, zm27, za36, zA36, zm36, za48, zA48, zm48, za288, zA288, zm288, zcl, zinT, upd_ne, upd_eq, zlt, znlt, zl2, zn2_, zl3, zn3_, zl5, zn5_, zl9, zn9_, zl10, zn10_, zl16, zn16_, zl20, zn20_, zl40, zn40_, zl60, zn60_, zl76, zn76_, zl80, zn80_, zl288, zn288_, zl300, zn300_, zneg, Nat.reduceEqDiff, Nat.reduceAdd, ↓reduceIte, e3]
      refine fin σ4 _ f4 c4 (fun i hi => ?_)
      unfold ms
      rw [if_pos ⟨by rw [ht]; exact hcond.1, hcond.2⟩, ht]
      simp only [rt, upd]
      by_cases h1 : i = 46
      · subst h1; rw [if_neg (by omega), if_pos rfl]; rfl
      · by_cases h2 : i < c.1
        · simp only [h1, h2, ↓reduceIte]
        · simp only [h1, h2, ↓reduceIte]
  have fin2 : ¬ (zrem (nI t + 1) 10 = 0 ∧ fr = false) → Q 0 σ3 := by
    intro hcond
    refine fin σ3 _ Fr.rf c3 (fun i hi => ?_)
    unfold ms
    rw [if_neg (fun q => hcond ⟨by rw [← ht]; exact q.1, q.2⟩), ht]
  cases fr
  · rw [if_pos (by decide)]
    by_cases hz : zrem (nI t + 1) 10 = 0
    · rw [if_pos hz]; exact loop ⟨hz, rfl⟩
    · rw [if_neg hz]; exact fin2 (fun q => hz q.1)
  · rw [if_neg (by decide)]
    exact fin2 (fun q => by cases q.2)
