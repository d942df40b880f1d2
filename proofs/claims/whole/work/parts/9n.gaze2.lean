/-! gaze -/
theorem r_causedLoop {e n f : Nat} {σ : zS} {c : MC} {l : List Int32} {t : Nat} (h : PF 226 c l t σ) (h7 : σ 214 7 = 0) (hf : f < 9) (hn : n ≤ 300) (ht : t + 300 < 100000000) {Q : Int32 → zS → Prop}
    (hq : ∀ σ', Fr (pR 226) σ σ' → Q (nI (cuT c f n (σ 226))) σ') : ∀ w5, Z (e + 226) 253 Q 9 [.ref 214, .int (nI f), .int (nI n), .int 0, .int 0, w5] [] σ := by
  have h9 : c.1 ≤ 9 := h.2.2.2.2.2.1.2.2.2
  have loop : ∀ m k T t (σ1 : zS), k + m = n → t + m < 100000000 → T ≤ 9 * k → Fr (pR 226) σ σ1 → PF 226 c l t σ1 → (∀ σ', Fr (pR 226) σ σ' → Q (nI (T + cuT c f m (σ1 226))) σ') → ∀ w5, Z (e + 226) 253 Q 9 [.ref 214, .int (nI f), .int (nI n), .int (nI T), .int (nI k), w5] [] σ1 := by
    intro m
    induction m with
    | zero =>
      intro k T t σ1 hk ht hT hf1 p1 hq w5
      refine k_253_9 ?_
      rw [if_neg (nI_nlt (by omega) (by omega))]
      exact hq σ1 hf1
    | succ m ih =>
      intro k T t σ1 hk ht hT hf1 p1 hq w5
      refine k_253_9 ?_
      rw [if_pos (nI_lt (by omega) (by omega))]
      obtain ⟨w1, -, -, y, w4, w6⟩ := p1.2.2.2.2.2.2
      refine r_passT226 (fr := false) p1 ((hf1 214 7 (by decide)).trans h7) (by omega) (fun σ5 f5 p5 e5 y5 b5 m5 => ?_)
      obtain ⟨l1, l2⟩ := ms_last (c := c) (r := σ1 226) (y := y) (f := f) h9 w6 (by omega)
      have hcnt := cn_le (yw false (σ1 226)) c.1
      generalize hN : cn (yw false (σ1 226)) c.1 = N at l1 l2 hcnt
      generalize hg : (fun j => b2n (decide (ms c false (σ1 226) (48 + 4 * ((y + j) % 60) + 2) = nI f))) = g at l2
      have hbc : bc (σ5 214 26) = nI N := by rw [y5, bc_ys h9, hN]
      have z0 : ∀ x : Nat, nI x + (0 : Int32) = nI x := fun x => Int32.add_zero _
      refine z_for (F := N) (P := fun i => Z (e + 226) 253 Q 26 [.ref 214, .int (nI f), .int (nI n), .int (nI (T + sm (fun i => g (N - 1 - i)) i)), .int (nI k), .int (nI (i + 1))] [] σ5) (fun i hi ih2 => ?_) ?_
      · refine k_253_26 ?_
        have hp : (y + N - (i + 1)) % 60 < 60 := Nat.mod_lt _ (by decide)
        rw [s_bitCount, hbc, if_neg (nI_nlt (by omega) (by omega)), e5, l1, subL (n := y + N) (k := i + 1) (by omega), show zrem (nI (y + N - (i + 1))) 60 = nI ((y + N - (i + 1)) % 60) from zrem_nI (b := 60) (by omega) (by decide) (by decide), show (4 : Int32) * nI ((y + N - (i + 1)) % 60) = nI (4 * ((y + N - (i + 1)) % 60)) from zm4 _, show (48 : Int32) + nI (4 * ((y + N - (i + 1)) % 60)) = nI (48 + 4 * ((y + N - (i + 1)) % 60)) from nI_add 48 _, show nI (48 + 4 * ((y + N - (i + 1)) % 60)) + (2 : Int32) = nI (48 + 4 * ((y + N - (i + 1)) % 60) + 2) from nI_add _ 2, if_pos (zin_nI (by omega) (by decide)), zcl (by omega), show nI (i + 1) + (1 : Int32) = nI (i + 1 + 1) from nI_add _ 1]
        have eg : g (N - 1 - i) = b2n (decide (ms c false (σ1 226) (48 + 4 * ((y + N - (i + 1)) % 60) + 2) = nI f)) := by
          rw [← hg]
          show b2n (decide (ms c false (σ1 226) (48 + 4 * ((y + (N - 1 - i)) % 60) + 2) = nI f)) = _
          rw [show y + (N - 1 - i) = y + N - (i + 1) by omega]
        rw [sm_1, eg] at ih2
        by_cases hv : ms c false (σ1 226) (48 + 4 * ((y + N - (i + 1)) % 60) + 2) = nI f
        · rw [decide_eq_true hv, show b2n true = 1 from rfl, ← Nat.add_assoc] at ih2
          rw [if_pos hv, show nI (T + sm (fun i => g (N - 1 - i)) i) + (1 : Int32) = nI (T + sm (fun i => g (N - 1 - i)) i + 1) from nI_add _ 1]
          exact ih2
        · rw [decide_eq_false hv, show b2n false = 0 from rfl, Nat.add_zero] at ih2
          rw [if_neg hv, z0]
          exact ih2
      · refine k_253_26 ?_
        rw [s_bitCount, hbc, if_pos (nI_lt (by omega) (by omega)), show nI k + (1 : Int32) = nI (k + 1) from nI_add k 1, sm_rev, l2]
        have h2 : cuM c f (σ1 226) ≤ c.1 := sm_b2n c.1
        refine ih (k + 1) (T + cuM c f (σ1 226)) (t + 1) σ5 (by omega) (by omega) (by omega) (Fr.tr hf1 f5) p5 (fun σ' f' => ?_) _
        have := hq σ' f'
        rw [cuT_1, ← Nat.add_assoc] at this
        rw [e5]; exact this
  intro w5
  have := loop n 0 0 t σ (by omega) (by omega) (Nat.le_refl _) Fr.rf h (fun σ' f' => by rw [Nat.zero_add]; exact hq σ' f') w5
  exact this
def cU (c : MC) (f o : Nat) : MC := (c.1, c.2.1, upd c.2.2.1 o (c.2.2.1 o ||| zshl 1 (nI f)), c.2.2.2)
theorem r_causedBy {e n f t : Nat} {σ : zS} {c : MC} {l : List Int32} (hg : c.2.2.2.1 = rvl l ∧ RRef l σ ∧ σ 214 6 = nI c.2.2.2.2.1 ∧ c.2.2.2.2.1 ≤ 40 ∧ σ 218 = c.2.2.2.2.2 ∧ CKs 226 c σ) (hw : WR c.1 t (σ 215)) (h7 : σ 214 7 = 0) (hf : f < 9) (hn : n ≤ 300) (ht : t + 300 < 100000000) {Q : Int32 → zS → Prop}
    (hq : ∀ σ', Fr scR σ σ' → Q (nI (cuT c f n (σ 215))) σ') : ZC (e + 227) 253 [.ref 214, .int (nI f), .int (nI n)] σ Q := by
  obtain ⟨g1, g2, g3, g4, g5, ⟨m1, m2, m3, m4⟩⟩ := hg
  refine k_253_0 ?_
  refine r_beginThen (d := e + 224) (fun g hg => ?_)
  have f1 : Fr (fun o _ => decide (o = 226)) σ (zput σ 226 g) := Fr.put (fun i q => by simp at q)
  have e226 : (zput σ 226 g) 226 = g := by simp only [zput_app, ↓reduceIte]
  have hPF : PF 226 c l t (zput σ 226 g) := by
    refine ⟨g1, RRef.ag g2 (f1 214 20 (by decide)) (fun i => f1 222 i (by simp)), (f1 214 6 (by decide)).trans g3, g4, ?_, ⟨(f1 214 1 (by decide)).trans m1, ?_, ?_, m4⟩, ?_⟩
    · rw [← g5]; exact funext fun i => f1 218 i (by simp)
    · rw [← m2]; exact funext fun i => f1 216 i (by simp)
    · rw [← m3]; exact funext fun i => f1 217 i (by simp)
    · rw [e226]; exact WR_cong m4 hw hg
  refine r_causedLoop (e := e) hPF ((f1 214 7 (by decide)).trans h7) hf hn ht (fun σ' f' => ?_) _
  rw [e226, cuT_cong m4 n g (σ 215) (fun i hi => hg i (by omega))]
  exact hq σ' (Fr.tr (Fr.s226 f1) f'.spR)
def gzF (V : Nat → Nat) (f b : Nat) : Nat → Int32 × Nat
  | 0 => (-1, b)
  | k + 1 => if k = f then gzF V f b k else if (gzF V f b k).2 < V k then (nI k, V k) else gzF V f b k
theorem gzF_1 (V : Nat → Nat) (f b k : Nat) : gzF V f b (k + 1) = if k = f then gzF V f b k else if (gzF V f b k).2 < V k then (nI k, V k) else gzF V f b k := rfl
theorem gzF_le {V : Nat → Nat} {f b B : Nat} (hb : b ≤ B) (hV : ∀ k, V k ≤ B) : ∀ k, (gzF V f b k).2 ≤ B := by
  intro k
  induction k with
  | zero => exact hb
  | succ k ih =>
    rw [gzF_1]
    split
    · exact ih
    · split
      · exact hV k
      · exact ih
theorem call_gaze {d e b : Nat} {σ : zS} (x y : Int32) (h : Inv b σ) (hb : b < 90000000) : Both (d + 7) 115 [.ref 0, .int x, .int y] (e + 228) 254 [.ref 214, .int x, .int y] b σ := by
  obtain ⟨c, l, t, ht, hc⟩ := h.ctx
  have h9 := hc.h9
  have hR3 : ∀ σ3, Fr tC σ σ3 → (zup σ3 214 12 0) 214 1 = nI c.1 := fun σ3 f3 => (fr12 (σ := σ3) 214 1 (by decide)).trans ((f3 214 1 (by decide)).trans hc.hR)
  have h215 : ∀ σ3, Fr tC σ σ3 → (zup σ3 214 12 0) 215 = σ 215 := fun σ3 f3 => (tR_215 fr12.rT).trans (tC_215 f3)
  rcases faceC x h9 with hx | ⟨f, hf, rfl⟩
  · refine both_q h (-2) none (fun Q hq => ?_) (fun σ3 f3 Q hq => ?_)
    · refine k_115_0 ?_
      rw [c_isFace0 hc.h14 hx, if_pos rfl]
      exact hq σ Fr.rf
    · refine k_254_0 ?_
      rw [r_isFace0 (hR3 σ3 f3) h9 hx, if_pos rfl]
      exact hq _ fr12
  rcases rngC y 1 300 (by decide) (by decide) with hy | ⟨n, hn1, hn, rfl⟩
  · have hy : y < (1 : Int32) ∨ (300 : Int32) < y := hy
    refine both_q h (-2) none (fun Q hq => ?_) (fun σ3 f3 Q hq => ?_)
    · refine k_115_0 ?_
      rw [c_isFace1 hc.h14 h9 hf, if_neg (by decide), s_isIn0 hy, if_pos rfl]
      exact hq σ Fr.rf
    · refine k_254_0 ?_
      rw [r_isFace1 (hR3 σ3 f3) h9 hf, if_neg (by decide), r_isMore0 hy, if_pos rfl]
      exact hq _ fr12
  generalize hV : (fun o => cuT (cU c f o) f n (σ 215)) = V
  have hVa : ∀ o, V o = cuT (cU c f o) f n (σ 215) := fun o => by rw [← hV]
  have hB := gzF_le (V := V) (f := f) (b := cuT c f n (σ 215)) (B := 9 * n) (cuT_le h9 n _) (fun k => by rw [hVa]; exact cuT_le (c := cU c f k) h9 n _)
  refine both_q h (gzF V f (cuT c f n (σ 215)) c.1).1 (some (1, tv1 (nI (gzF V f (cuT c f n (σ 215)) c.1).2))) (fun Q hq => ?_) (fun σ3 f3 Q hq => ?_)
  · refine k_115_0 ?_
    rw [c_isFace1 hc.h14 h9 hf, if_neg (by decide), show (Value.int 1) = .int (nI 1) from rfl, show (Value.int 300) = .int (nI 300) from rfl, s_isIn1 hn1 hn (by decide), if_neg (by decide)]
    refine k_164_0 ?_
    refine c_take2 hc Fr.rf (fun σ1 f1 p1 => ?_)
    have g14 : ∀ {σ'}, Fr scC σ σ' → σ' 14 3 = nI c.1 := fun f' => (tC_14 f'.cT).trans hc.h14
    rw [c_isFace0 (g14 f1) (x := -1) (Or.inl (by decide)), if_pos rfl]
    refine c_causedLoop p1 (g14 f1) hn (by omega) (fun σ2 f2 => ?_) _
    have hloop := z_for (F := c.1) (P := fun k => ∀ σ4 w6, Fr scC σ σ4 → Z (d + 6) 115 Q 36 [.ref 0, .int (nI f), .int (nI n), .int (gzF V f (cuT c f n (σ 215)) k).1, .int (nI (gzF V f (cuT c f n (σ 215)) k).2), .int (nI k), w6] [] σ4) (fun k hk ih => ?_) ?_
    · exact hloop σ2 _ (Fr.tr f1 f2)
    · intro σ4 w6 f4
      refine k_115_36 ?_
      have hBk := hB k
      rw [g14 f4, if_pos (nI_lt hk (by omega)), show nI k + (1 : Int32) = nI (k + 1) from nI_add k 1]
      rw [gzF_1] at ih
      by_cases hkf : k = f
      · rw [if_pos hkf] at ih
        rw [if_pos (by rw [hkf]), if_neg (nI_pos (by omega))]
        exact ih σ4 _ f4
      · rw [if_neg hkf] at ih
        rw [if_neg (fun q => hkf ((nI_eq (by omega) (by omega)).mp q))]
        refine k_164_0 ?_
        refine c_take2 hc f4.cT (fun σ5 f5 p5 => ?_)
        have f45 := Fr.tr f4 f5
        rw [c_isFace1 (g14 f45) h9 hk, if_neg (by decide), if_pos (zin_nI (show k < 9 by omega) (by decide)), s_bit, if_pos (zin_nI (show k < 9 by omega) (by decide)), zcl (by omega)]
        obtain ⟨p1', p2', ⟨k1, k2, k3, k4, k5, k6⟩, p4', p5'⟩ := p5
        have hP : PC (cU c f k) l t (σ 215) (zup σ5 25 k ((σ5 25 k) ||| zshl 1 (nI f))) := by
          have o : ∀ o i, o ≠ 25 → (zup σ5 25 k ((σ5 25 k) ||| zshl 1 (nI f))) o i = σ5 o i := fun o i q => by rw [zup_eq, zput_app, if_neg q]
          refine ⟨p1', ⟨(o 3 2 (by decide)).trans p2'.1, fun i hi => (o 5 i (by decide)).trans (p2'.2.1 i hi), p2'.2.2.1, p2'.2.2.2⟩, ⟨(o 23 3 (by decide)).trans k1, k2, fun g hg => ⟨(o 24 g (by decide)).trans (k3 g hg).1, ?_⟩, (o 3 5 (by decide)).trans k4, k5, fun i q => (o 7 i (by decide)).trans (k6 i q)⟩, CM.ag p4' (fun o' i q1 q2 => o o' i (by omega)), p5'⟩
          show (zup σ5 25 k ((σ5 25 k) ||| zshl 1 (nI f))) 25 g = upd c.2.2.1 k (c.2.2.1 k ||| zshl 1 (nI f)) g
          rw [zup_eq, zput_app, if_pos rfl]
          have e25 : σ5 25 k = c.2.2.1 k := (k3 k hk).2
          by_cases q : g = k
          · rw [q, upd_eq, upd_eq, e25]
          · rw [upd_ne q, upd_ne q]; exact (k3 g hg).2
        have f46 : Fr scC σ (zup σ5 25 k ((σ5 25 k) ||| zshl 1 (nI f))) := Fr.tr f45 (Fr.up rfl)
        refine c_causedLoop (c := cU c f k) hP (g14 f46) hn (by omega) (fun σ6 f6 => ?_) _
        rw [← hVa k]
        have hVk := cuT_le (c := cU c f k) h9 (f := f) n (σ 215)
        rw [← hVa k] at hVk
        by_cases hlt : (gzF V f (cuT c f n (σ 215)) k).2 < V k
        · rw [if_pos hlt] at ih
          rw [if_pos (nI_lt hlt (by omega))]
          exact ih σ6 _ (Fr.tr f46 f6)
        · rw [if_neg hlt] at ih
          rw [if_neg (nI_nlt (by omega) (by omega))]
          exact ih σ6 _ (Fr.tr f46 f6)
    · intro σ4 w6 f4
      refine k_115_36 ?_
      rw [g14 f4, if_neg (nI_nlt (Nat.le_refl _) (by omega))]
      exact c_tell1 (fun σ5 f5 t5 => hq σ5 ⟨by decide, Fr.tr f4.cT f5.sTC, t5⟩)
  · refine k_254_0 ?_
    have hc3 := (hc.fr (FrCT f3)).fr (FrR fr12)
    have e215 := h215 σ3 f3
    rw [r_isFace1 (hR3 σ3 f3) h9 hf, if_neg (by decide), r_isMore1 hn1 hn, if_neg (by decide)]
    -- what the reference's minutes rest on
    have base : ∀ σ4, Fr scR (zup σ3 214 12 0) σ4 → ∀ S, (∀ o i, o ≠ 217 → ∀ σ5, (σ5 = zput σ4 217 S) → σ5 o i = σ4 o i) ∧ (rvl l = c.2.2.2.1 → True) := fun σ4 f4 S => ⟨fun o i q σ5 e => by rw [e, zput_app, if_neg q], fun _ => trivial⟩
    have pg : ∀ σ4, Fr scR (zup σ3 214 12 0) σ4 → ∀ (S : Nat → Int32), (c.1, c.2.1, S, c.2.2.2).2.2.2.1 = rvl l ∧ RRef l (zput σ4 217 S) ∧ (zput σ4 217 S) 214 6 = nI c.2.2.2.2.1 ∧ c.2.2.2.2.1 ≤ 40 ∧ (zput σ4 217 S) 218 = c.2.2.2.2.2 ∧ CKs 226 (c.1, c.2.1, S, c.2.2.2) (zput σ4 217 S) := fun σ4 f4 S => by
      have hc4 := hc3.fr (FrR f4)
      obtain ⟨c1, -, ⟨-, -, -, -, k5, -⟩, -, c5, c6, c7, ⟨m1, m2, m3, m4⟩, -, -, -⟩ := hc4
      have o : ∀ o i, o ≠ 217 → (zput σ4 217 S) o i = σ4 o i := fun o i q => by rw [zput_app, if_neg q]
      refine ⟨c1, RRef.ag c5 (o 214 20 (by decide)) (fun i => o 222 i (by decide)), (o 214 6 (by decide)).trans c6, k5, ?_, (o 214 1 (by decide)).trans m1, ?_, ?_, m4⟩
      · rw [← c7]; exact funext fun i => o 218 i (by decide)
      · rw [← m2]; exact funext fun i => o 216 i (by decide)
      · rw [zput_app, if_pos rfl]
    have h7 : ∀ σ4, Fr scR (zup σ3 214 12 0) σ4 → σ4 214 7 = 0 := fun σ4 f4 => (f4 214 7 (by decide)).trans hc3.2.2.2.2.2.2.2.2.2.1
    have g215 : ∀ σ4, Fr scR (zup σ3 214 12 0) σ4 → σ4 215 = σ 215 := fun σ4 f4 => (tR_215 f4.rT).trans e215
    have g217 : ∀ σ4, Fr scR (zup σ3 214 12 0) σ4 → σ4 217 = c.2.2.1 := fun σ4 f4 => (hc3.fr (FrR f4)).2.2.2.2.2.2.2.1.2.2.1
    have self : ∀ σ4, Fr scR (zup σ3 214 12 0) σ4 → zput σ4 217 c.2.2.1 = σ4 := fun σ4 f4 => by rw [← g217 σ4 f4, zput_self]
    have p0 := pg _ Fr.rf c.2.2.1
    rw [self _ Fr.rf] at p0
    refine r_causedBy (c := c) p0 (by rw [e215]; exact hc.hWR) (h7 _ Fr.rf) (by omega) hn (by omega) (fun σ4 f4 => ?_)
    rw [e215]
    have hloop := z_for (F := c.1) (P := fun k => ∀ σ4 w6 w7, Fr scR (zup σ3 214 12 0) σ4 → Z (e + 227) 254 Q 36 [.ref 214, .int (nI f), .int (nI n), .int (gzF V f (cuT c f n (σ 215)) k).1, .int (nI (gzF V f (cuT c f n (σ 215)) k).2), .int (nI k), w6, w7] [] σ4) (fun k hk ih => ?_) ?_
    · exact hloop σ4 _ _ f4
    · intro σ4 w6 w7 f4
      refine k_254_36 ?_
      have hBk := hB k
      have zk : zin (nI k) 9 = true := zin_nI (by omega) (by decide)
      simp only [zk, ↓reduceIte]
      rw [show σ4 214 1 = nI c.1 from (f4 214 1 (by decide)).trans (hR3 σ3 f3), if_pos (nI_lt hk (by omega)), show nI k + (1 : Int32) = nI (k + 1) from nI_add k 1, zcl (by omega)]
      rw [gzF_1] at ih
      by_cases hkf : k = f
      · rw [if_pos hkf] at ih
        rw [if_pos (by rw [hkf])]
        exact ih σ4 _ _ f4
      · rw [if_neg hkf] at ih
        rw [if_neg (fun q => hkf ((nI_eq (by omega) (by omega)).mp q)), zup_eq, g217 σ4 f4]
        have pk := pg σ4 f4 (upd c.2.2.1 k (c.2.2.1 k ||| zshl 1 (nI f)))
        refine r_causedBy (c := cU c f k) (t := t) pk (by rw [zput_app, if_neg (by decide), g215 σ4 f4]; exact hc.hWR) (by rw [zput_app, if_neg (by decide)]; exact h7 σ4 f4) (by omega) hn (by omega) (fun σ5 f5 => ?_)
        have es : σ5 217 = upd c.2.2.1 k (c.2.2.1 k ||| zshl 1 (nI f)) := (funext fun i => f5 217 i (by simp [scR, scr])).trans (by rw [zput_app, if_pos rfl])
        have e6 : Fr scR (zup σ3 214 12 0) (zup σ5 217 k (c.2.2.1 k)) := fun o i q => by
          rw [zup_eq, zput_app]
          by_cases h17 : o = 217
          · subst h17
            rw [if_pos rfl, es]
            have : upd (upd c.2.2.1 k (c.2.2.1 k ||| zshl 1 (nI f))) k (c.2.2.1 k) i = c.2.2.1 i := by
              by_cases q2 : i = k
              · rw [q2, upd_eq]
              · rw [upd_ne q2, upd_ne q2]
            rw [this, ← g217 _ Fr.rf]
          · rw [if_neg h17, f5 o i q, zput_app, if_neg h17]
            exact f4 o i q
        rw [show (zput σ4 217 (upd c.2.2.1 k (c.2.2.1 k ||| zshl 1 (nI f)))) 215 = σ 215 by rw [zput_app, if_neg (by decide)]; exact g215 σ4 f4, ← hVa k]
        have hVk := cuT_le (c := cU c f k) h9 (f := f) n (σ 215)
        rw [← hVa k] at hVk
        by_cases hlt : (gzF V f (cuT c f n (σ 215)) k).2 < V k
        · rw [if_pos hlt] at ih
          rw [if_pos (nI_lt hlt (by omega))]
          exact ih _ _ _ e6
        · rw [if_neg hlt] at ih
          rw [if_neg (nI_nlt (by omega) (by omega))]
          exact ih _ _ _ e6
    · intro σ4 w6 w7 f4
      refine k_254_36 ?_
      rw [show σ4 214 1 = nI c.1 from (f4 214 1 (by decide)).trans (hR3 σ3 f3), if_neg (nI_nlt (Nat.le_refl _) (by omega))]
      exact r_tell1 (fun σ5 f5 t5 => hq σ5 ⟨Fr.tr (Fr.tr fr12 f4).rT f5.sTR, t5⟩)
