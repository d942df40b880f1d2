/-! rests -/
def rsE (c : MC) (j : Int32) (r : Nat → Int32) : Nat → Nat → Nat → Nat → Nat → Nat × Nat × Nat × Nat
  | 0, k, s, m, st => (k, s, m, st)
  | n + 1, k, s, m, st => if st < 2 then (if k % 2 = 0 then rsE c j r n (k + 1) (cho c j r 0 s m (c.1 + 1)).1 m (if (cho c j r 0 s m (c.1 + 1)).1 = s then st + 1 else 0) else rsE c j r n (k + 1) s (cho c j r 1 s m (c.1 + 1)).1 (if (cho c j r 1 s m (c.1 + 1)).1 = m then st + 1 else 0)) else (k, s, m, st)
theorem rsE_1 (c : MC) (j : Int32) (r : Nat → Int32) (n k s m st : Nat) : rsE c j r (n + 1) k s m st = if st < 2 then (if k % 2 = 0 then rsE c j r n (k + 1) (cho c j r 0 s m (c.1 + 1)).1 m (if (cho c j r 0 s m (c.1 + 1)).1 = s then st + 1 else 0) else rsE c j r n (k + 1) s (cho c j r 1 s m (c.1 + 1)).1 (if (cho c j r 1 s m (c.1 + 1)).1 = m then st + 1 else 0)) else (k, s, m, st) := rfl
def rsT (c : MC) (j : Int32) (r : Nat → Int32) (x : Nat × Nat × Nat × Nat) : Nat → Int32 := tv4 (if x.2.2.2 = 2 then 1 else 0) (ixN x.2.1) (ixN x.2.2.1) (stV c j r x.2.1 x.2.2.1)
theorem c_restsEnd {d k s m st : Nat} {σ σ1 : zS} {c : MC} {l : List Int32} {t : Nat} (hc : Ctx c l t σ) (f1 : Fr scC σ σ1) (hs : s ≤ c.1) (hm : m ≤ c.1) (hst : st < 1000) (ht : t + 300 < 1073741824) {Q : Int32 → zS → Prop} (hq : ∀ σ', Fr tC σ σ' → TL 4 (rsT c (σ 214 4) (σ 215) (k, s, m, st)) σ' → Q (nI k) σ') : ZC (d + 6) 165 [.ref 0, .int (ixN s), .int (ixN m)] σ1 (fun _ s3 => (if nI st = 2 then (ZC (d + 6) 150 [.ref 0, .int 300] s3 (fun v6 s5 => (ZC (d + 6) 140 [.ref 0, .int 1, .int (ixN s), .int (ixN m), .int v6] s5 (fun _ s7 => Q (nI k) s7)))) else (ZC (d + 6) 150 [.ref 0, .int 300] s3 (fun v10 s9 => (ZC (d + 6) 140 [.ref 0, .int 0, .int (ixN s), .int (ixN m), .int v10] s9 (fun _ s11 => Q (nI k) s11)))))) := by
  by_cases h2 : st = 2
  · have e : (nI st = 2) = True := by rw [h2]; exact eq_true rfl
    simp only [e, ↓reduceIte]
    refine c_stBoth hc f1.cT hs hm ht (fun σ2 f2 => ?_)
    refine c_tell4 (fun σ3 f3 t3 => hq σ3 (Fr.tr (Fr.tr f1 f2).cT f3.sTC) ?_)
    unfold rsT
    rw [if_pos h2]; exact t3
  · have e : (nI st = 2) = False := eq_false (fun q => h2 ((nI_eq (a := st) (b := 2) (by omega) (by decide)).mp q))
    simp only [e, ↓reduceIte]
    refine c_stBoth hc f1.cT hs hm ht (fun σ2 f2 => ?_)
    refine c_tell4 (fun σ3 f3 t3 => hq σ3 (Fr.tr (Fr.tr f1 f2).cT f3.sTC) ?_)
    unfold rsT
    rw [if_neg h2]; exact t3
theorem c_restsLoop {d M : Nat} {σ : zS} {c : MC} {l : List Int32} {t : Nat} (hc : Ctx c l t σ) (hM : M ≤ 20) (ht : t + 300 < 1073741824) {Q : Int32 → zS → Prop} : ∀ n k s m st σ1, k + n = M → s ≤ c.1 → m ≤ c.1 → st ≤ k → Fr scC σ σ1 → (∀ σ', Fr tC σ σ' → TL 4 (rsT c (σ 214 4) (σ 215) (rsE c (σ 214 4) (σ 215) n k s m st)) σ' → Q (nI (rsE c (σ 214 4) (σ 215) n k s m st).1) σ') → ∀ w6 w7, Z (d + 7) 116 Q 22 [.ref 0, .int (nI M), .int (ixN s), .int (ixN m), .int (nI k), .int (nI st), w6, w7] [] σ1 := by
  have h9 := hc.h9
  intro n
  induction n with
  | zero =>
    intro k s m st σ1 hk hs hm hst f1 hq w6 w7
    refine k_116_22 ?_
    rw [if_neg (nI_nlt (by omega) (by omega))]
    exact c_restsEnd (d := d + 1) hc f1 hs hm (by omega) ht hq
  | succ n ih =>
    intro k s m st σ1 hk hs hm hst f1 hq w6 w7
    rw [rsE_1] at hq
    refine k_116_22 ?_
    rw [if_pos (nI_lt (by omega) (by omega))]
    by_cases h2 : st < 2
    · rw [if_pos h2] at hq
      have ek : zrem (nI k) 2 = nI (k % 2) := zrem_nI (b := 2) (by omega) (by decide) (by decide)
      have ek1 : nI k + (1 : Int32) = nI (k + 1) := nI_add k 1
      have es1 : nI st + (1 : Int32) = nI (st + 1) := nI_add st 1
      rw [if_pos (show nI st < 2 from nI_lt (b := 2) h2 (by decide)), ek, ek1, es1]
      by_cases hp : k % 2 = 0
      · rw [if_pos hp] at hq
        rw [hp]
        have hch := (cho_ok (c := c) (j := σ 214 4) (r := σ 215) (p := 0) hs hm (c.1 + 1) (Nat.le_refl _)).1
        refine c_choice (p := 0) hc f1.cT (by decide) hs hm ht (fun σ2 f2 => ?_)
        simp only [show (nI 0 = 0) = True from eq_true rfl, show (nI 0 = 1) = False from eq_false (by decide), ↓reduceIte]
        by_cases he : (cho c (σ 214 4) (σ 215) 0 s m (c.1 + 1)).1 = s
        · rw [if_pos he] at hq
          rw [if_pos (by rw [he])]
          exact ih (k + 1) _ m (st + 1) σ2 (by omega) hch hm (by omega) (Fr.tr f1 f2) hq _ _
        · rw [if_neg he] at hq
          rw [if_neg (fun q => he ((ixN_eq (by omega) (by omega)).mp q))]
          exact ih (k + 1) _ m 0 σ2 (by omega) hch hm (by omega) (Fr.tr f1 f2) hq _ _
      · have hp1 : k % 2 = 1 := by omega
        rw [if_neg hp] at hq
        rw [hp1]
        have hch := (cho_ok (c := c) (j := σ 214 4) (r := σ 215) (p := 1) hs hm (c.1 + 1) (Nat.le_refl _)).1
        refine c_choice (p := 1) hc f1.cT (by decide) hs hm ht (fun σ2 f2 => ?_)
        simp only [show (nI 1 = 0) = False from eq_false (by decide), show (nI 1 = 1) = True from eq_true rfl, ↓reduceIte]
        by_cases he : (cho c (σ 214 4) (σ 215) 1 s m (c.1 + 1)).1 = m
        · rw [if_pos he] at hq
          rw [if_pos (by rw [he])]
          exact ih (k + 1) s _ (st + 1) σ2 (by omega) hs hch (by omega) (Fr.tr f1 f2) hq _ _
        · rw [if_neg he] at hq
          rw [if_neg (fun q => he ((ixN_eq (by omega) (by omega)).mp q))]
          exact ih (k + 1) s _ 0 σ2 (by omega) hs hch (by omega) (Fr.tr f1 f2) hq _ _
    · rw [if_neg h2] at hq
      rw [if_neg (show ¬ nI st < 2 from nI_nlt (b := 2) (by omega) (by omega))]
      exact c_restsEnd (d := d + 1) hc f1 hs hm (by omega) ht hq
