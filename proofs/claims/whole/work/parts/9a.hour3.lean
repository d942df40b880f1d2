/-! hour -/
theorem PQ.draft {F b s x : Nat} {R : Nat → Nat → Int32} {σ σ1 : zS} (hs : s ≤ 12) (hx : x < 13) (h : PQ F b s x R σ) (f1 : Fr (fun o _ => decide (39 + 11 * x ≤ o ∧ o ≤ 39 + 11 * x + 10)) σ σ1) : PQ F b s x R σ1 := by
  obtain ⟨p1, p2, p3⟩ := h
  refine ⟨(f1 37 0 (decide_eq_false (by omega))).trans p1, (f1 37 2 (decide_eq_false (by omega))).trans p2, fun j hj => SN.ag (p3 j hj) (fun o i q1 q2 => f1 o i (decide_eq_false ?_))⟩
  have hm : (x + 12 - j) % 13 < 13 := Nat.mod_lt _ (by decide)
  have hne : (x + 12 - j) % 13 ≠ x := by omega
  omega
theorem PQ.confirm {F b s x : Nat} {r : Nat → Int32} {R : Nat → Nat → Int32} {σ1 : zS} (hs : s ≤ 12) (hx : x < 13) (h : PQ F b s x R σ1) (g1 : SN (39 + 11 * x) F b r σ1) : PQ F b (s12 s) ((x + 1) % 13) (nwR r R) (zup (zup σ1 37 2 (nI ((x + 1) % 13))) 37 0 (nI (s12 s))) := by
  obtain ⟨p1, p2, p3⟩ := h
  have hsx : s12 s ≤ 12 ∧ s12 s ≤ s + 1 := by unfold s12; split <;> omega
  have keep : ∀ o i, o ≠ 37 → (zup (zup σ1 37 2 (nI ((x + 1) % 13))) 37 0 (nI (s12 s))) o i = σ1 o i := fun o i q => by
    simp only [zup_eq, zput_app]
    rw [if_neg q, if_neg q]
  refine ⟨rfl, rfl, fun j hj => ?_⟩
  by_cases h0 : j = 0
  · subst h0
    rw [show ((x + 1) % 13 + 12 - 0) % 13 = x by omega, show nwR r R 0 = r from rfl]
    exact SN.ag g1 (fun o i q1 q2 => keep o i (by omega))
  · have := p3 (j - 1) (by omega)
    rw [show nwR r R j = R (j - 1) from if_neg h0, show ((x + 1) % 13 + 12 - j) % 13 = (x + 12 - (j - 1)) % 13 by omega]
    exact SN.ag this (fun o i q1 q2 => keep o i (by omega))
theorem c_confirm {d s x : Nat} {σ : zS} (hs : s ≤ 12) (hx : x < 13) (h0 : σ 37 0 = nI s) (h2 : σ 37 2 = nI x) (Q : Int32 → zS → Prop) : ZC (d + 2) 36 [.ref 37] σ Q = Q 0 (zup (zup σ 37 2 (nI ((x + 1) % 13))) 37 0 (nI (s12 s))) := by
  refine s_of (fun Q hq => k_36_0 ?_) Q
  rw [h0, h2, show nI x + (1 : Int32) = nI (x + 1) from nI_add x 1, show nI s + (1 : Int32) = nI (s + 1) from nI_add s 1, show zrem (nI (x + 1)) 13 = nI ((x + 1) % 13) from zrem_nI (b := 13) (by omega) (by decide) (by decide), s_mn]
  have e12 : (if (12 : Int32) < nI (s + 1) then (12 : Int32) else nI (s + 1)) = nI (s12 s) := by
    unfold s12
    by_cases hlt : s < 12
    · rw [if_pos hlt, if_neg (show ¬ (12 : Int32) < nI (s + 1) from nI_nlt (a := 12) (by omega) (by omega))]
    · rw [if_neg hlt, if_pos (show (12 : Int32) < nI (s + 1) from nI_lt (a := 12) (by omega) (by omega))]
      rfl
  rw [e12]
  exact hq
theorem c_tail {d s x k n : Nat} {a : Int32} {σ : zS} (hs : s ≤ 12) (hx : x < 13) (h0 : σ 37 0 = nI s) (h2 : σ 37 2 = nI x) (hn : n ≤ 20) (hk : k ≤ n) (h10 : σ 10 3 = nI n) {Q : Int32 → zS → Prop}
    (hq : ∀ σ', Fr frTC (if k = 0 then σ else zup (zup σ 37 2 (nI ((x + 1) % 13))) 37 0 (nI (s12 s))) σ' → TL 2 (tv2 (if k < n then 1 else 0) a) σ' → Q (nI k) σ') : cTail (d + 2) Q k a σ := by
  unfold cTail
  by_cases hk0 : k = 0
  · subst hk0
    rw [if_neg (by decide), h10]
    rw [if_pos rfl] at hq
    by_cases h : 0 < n
    · rw [if_pos (nI_lt h (by omega))]
      rw [if_pos h] at hq
      exact c_tell2 hq
    · rw [if_neg (nI_nlt (by omega) (by omega))]
      rw [if_neg h] at hq
      exact c_tell2 hq
  · rw [if_pos (show (0 : Int32) < nI k from nI_lt (a := 0) (by omega) (by omega)), c_confirm hs hx h0 h2]
    rw [if_neg hk0] at hq
    rw [show (zup (zup σ 37 2 (nI ((x + 1) % 13))) 37 0 (nI (s12 s))) 10 3 = nI n from h10]
    by_cases h : k < n
    · rw [if_pos (nI_lt h (by omega))]
      rw [if_pos h] at hq
      exact c_tell2 hq
    · rw [if_neg (nI_nlt (by omega) (by omega))]
      rw [if_neg h] at hq
      exact c_tell2 hq
theorem r_tells33 {e k : Nat} {x a : Int32} {σ : zS} (h33 : σ 214 33 = a) {Q : Int32 → zS → Prop} (hq : ∀ σ', Fr frTR (zup σ 214 11 0) σ' → TLr 2 (upd (upd (fun _ => 0) 0 x) 1 a) σ' → Q (nI k) σ') : ZC (e + 1) 174 [.ref 214, .int x] (zup σ 214 11 0) (fun _ s23 => (ZC (e + 1) 174 [.ref 214, .int (s23 214 33)] s23 (fun _ s25 => Q (nI k) s25))) := by
  refine r_tellN (TLr.zero _ (fun _ => 0)) (by decide) (fun σ6 f6 t6 => ?_)
  rw [show σ6 214 33 = a from (f6 214 33 (by decide)).trans h33]
  exact r_tellN t6 (by decide) (fun σ7 f7 t7 => hq σ7 (Fr.tr f6 f7) t7)
theorem r_tail {e s k n : Nat} {a : Int32} {R : Nat → Nat → Int32} {σ : zS} (hs : s ≤ 12) (hn : n ≤ 20) (hk : k ≤ n) (h : PRr s R σ) (h33 : σ 214 33 = a) {Q : Int32 → zS → Prop}
    (hq : ∀ σ0 σ', (k = 0 → σ0 = σ) → (0 < k → Fr pRr σ σ0 ∧ PRr (s12 s) (nwR (σ 224) R) σ0) → Fr frTR (zup σ0 214 11 0) σ' → TLr 2 (upd (upd (fun _ => 0) 0 (if k < n then 1 else 0)) 1 a) σ' → Q (nI k) σ') : rTail (e + 2) Q n k σ := by
  unfold rTail
  have fin : ∀ σ0 : zS, σ0 214 33 = a → (k = 0 → σ0 = σ) → (0 < k → Fr pRr σ σ0 ∧ PRr (s12 s) (nwR (σ 224) R) σ0) → (if nI k < nI n then (ZC (e + 2) 174 [.ref 214, .int 1] (zup σ0 214 11 0) (fun _ s23 => (ZC (e + 2) 174 [.ref 214, .int (s23 214 33)] s23 (fun _ s25 => Q (nI k) s25)))) else (ZC (e + 2) 174 [.ref 214, .int 0] (zup σ0 214 11 0) (fun _ s27 => (ZC (e + 2) 174 [.ref 214, .int (s27 214 33)] s27 (fun _ s29 => Q (nI k) s29))))) := fun σ0 e0 q1 q2 => by
    by_cases hkn : k < n
    · rw [if_pos (nI_lt hkn (by omega))]
      refine r_tells33 e0 (fun σ' f' t' => hq σ0 σ' q1 q2 f' ?_)
      rw [if_pos hkn]; exact t'
    · rw [if_neg (nI_nlt (by omega) (by omega))]
      refine r_tells33 e0 (fun σ' f' t' => hq σ0 σ' q1 q2 f' ?_)
      rw [if_neg hkn]; exact t'
  by_cases hk0 : k = 0
  · rw [if_neg (show ¬ (0 : Int32) < nI k by rw [hk0]; decide)]
    exact fin σ h33 (fun _ => rfl) (fun q => absurd q (by omega))
  · rw [if_pos (show (0 : Int32) < nI k from nI_lt (a := 0) (by omega) (by omega))]
    refine r_remember224 hs h (fun σ0 f0 q0 => ?_)
    exact fin σ0 ((f0 214 33 (by decide)).trans h33) (fun q => absurd q hk0) (fun _ => ⟨f0, q0⟩)
theorem PRr.cong {s : Nat} {R R' : Nat → Nat → Int32} {σ : zS} (h : PRr s R σ) (hR : ∀ j, j < s → ∀ i, i < 288 → R' j i = R j i) : PRr s R' σ :=
  ⟨h.1, fun j hj i hi => by rw [hR j hj i hi]; exact h.2 j hj i hi⟩
