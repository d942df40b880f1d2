/-! the reference reads the rule: things, products, sums, comparisons -/
theorem ex_num {k : Nat} (h : k < 1000) (v : Nat → Int32) (st : List Int32) : ex v [nI k] st = nI k :: st := by
  obtain ⟨h1, h2, h3⟩ := n999 k h
  simp only [ex, ex1, h1, h2, h3, ↓reduceIte]
theorem ex_var {k : Nat} (h : k < 9) (v : Nat → Int32) (st : List Int32) : ex v [nI (1000 + k)] st = v k :: st := by
  obtain ⟨h1, h2, h3, h4, h5⟩ := n1000 k h
  simp only [ex, ex1, h1, h2, h3, h4, h5, ↓reduceIte]
theorem ex_bin {l1 l2 : List Int32} {v : Nat → Int32} {w1 w2 : Int32} (h1 : ∀ st, ex v l1 st = w1 :: st) (h2 : ∀ st, ex v l2 st = w2 :: st) {c : Nat} (hc : c < 128) (hc2 : c ≠ 126) (hc3 : c ≠ 0) (st : List Int32) : ex v (l1 ++ l2 ++ [-(nI c)]) st = jn (nI c) w1 w2 :: st := by
  obtain ⟨g1, g2⟩ := opn c hc hc2 hc3
  rw [ex_app, ex_app, h1, h2]
  simp only [ex, ex1, g1, g2, ↓reduceIte, Int32.neg_neg]
theorem mns_fuel {C : Nat → Nat} {L : Nat} (hC : ∀ i, L ≤ i → C i = 999) : ∀ n a, L ≤ a + n → mns C (n + 1) a = mns C n a := by
  intro n
  induction n with
  | zero =>
    intro a h
    unfold mns
    rw [if_neg (by rw [hC a (by omega)]; decide)]
  | succ n ih =>
    intro a h
    have e : mns C (n + 1) a = if C a = 45 then mns C n (a + 1) else a := rfl
    have e2 : mns C (n + 1 + 1) a = if C a = 45 then mns C (n + 1) (a + 1) else a := rfl
    rw [e, e2, ih (a + 1) (by omega)]
section RRULE2
variable {C : Nat → Nat} {L : Nat} {σ0 : zS}
theorem r_thing0 (hR : HR C L σ0) (hC : ∀ i, L ≤ i → C i = 999) (hL : L ≤ 40) {v : Nat → Int32} (hV : RV v σ0) {e dp : Nat} {ok : Bool} {sub : Nat → PR} (hdp : dp ≤ 4) (hok : ok = decide (dp < 4)) (hgd : ok = true → ∀ a, a ≤ L → Gd L a (sub a)) (hsub : ok = true → CR C L (e + 3) 193 (dp + 1) v σ0 sub)
    {a : Nat} {σ : zS} (hf : Fr pq σ0 σ) (hF : RF a σ) (ha : a ≤ L) (h45 : C a ≠ 45) {Q : Int32 → zS → Prop} (h1 : (pThing C sub ok a).1 = true → ∀ w σ', (∀ st, ex v (pThing C sub ok a).2.2 st = w :: st) → Fr pq σ σ' → RF (pThing C sub ok a).2.1 σ' → Q w σ') (h0 : (pThing C sub ok a).1 = false → ∀ w σ', Fr pq σ σ' → RB L (pThing C sub ok a).2.1 σ' → Q w σ') : ZC (e + 4) 196 [.ref 214, .int (nI dp)] σ Q := by
  refine k_196_0 ?_
  refine r_passes hR hf hF ha (c := 45) (by decide) (fun q => absurd q h45) (fun _ => ?_)
  rw [if_pos rfl, r_fine, hF.2, if_pos rfl, if_neg (by decide)]
  refine hR σ hf a ha hF.1 (e + 2) _ (fun x hx => ?_)
  simp only [show (x = 40) = (C a = 40) from chR_eq hx (c := 40) (by decide)]
  unfold pThing at h1 h0
  have tail : C a ≠ 40 ∨ ok = false → ∀ T : Int32 → zS → Prop, (∀ z, z = (if 48 ≤ C a ∧ C a ≤ 57 then (1 : Int32) else 0) → (z = 0 → (if x = 116 then Z (e + 3) 196 Q 212 [.ref 214, .int (nI dp), .int x, (.retAddr 0), (.retAddr 0)] [(zdec (σ 214 21))] (zup σ 214 16 ((σ 214 16) + 1)) else (if x = 121 then Z (e + 3) 196 Q 212 [.ref 214, .int (nI dp), .int x, (.retAddr 0), (.retAddr 0)] [(zdec (σ 214 21))] (zup σ 214 16 ((σ 214 16) + 1)) else (if x = 107 then Z (e + 3) 196 Q 212 [.ref 214, .int (nI dp), .int x, (.retAddr 0), (.retAddr 0)] [(zdec (σ 214 21))] (zup σ 214 16 ((σ 214 16) + 1)) else (if x = 110 then Z (e + 3) 196 Q 212 [.ref 214, .int (nI dp), .int x, (.retAddr 0), (.retAddr 0)] [(zdec (σ 214 21))] (zup σ 214 16 ((σ 214 16) + 1)) else (if x = 119 then Z (e + 3) 196 Q 212 [.ref 214, .int (nI dp), .int x, (.retAddr 0), (.retAddr 0)] [(zdec (σ 214 21))] (zup σ 214 16 ((σ 214 16) + 1)) else (if x = 109 then Z (e + 3) 196 Q 212 [.ref 214, .int (nI dp), .int x, (.retAddr 0), (.retAddr 0)] [(zdec (σ 214 21))] (zup σ 214 16 ((σ 214 16) + 1)) else (if x = 105 then Z (e + 3) 196 Q 212 [.ref 214, .int (nI dp), .int x, (.retAddr 0), (.retAddr 0)] [(zdec (σ 214 21))] (zup σ 214 16 ((σ 214 16) + 1)) else (if x = 106 then Z (e + 3) 196 Q 212 [.ref 214, .int (nI dp), .int x, (.retAddr 0), (.retAddr 0)] [(zdec (σ 214 21))] (zup σ 214 16 ((σ 214 16) + 1)) else (if x = 120 then Z (e + 3) 196 Q 212 [.ref 214, .int (nI dp), .int x, (.retAddr 0), (.retAddr 0)] [(zdec (σ 214 21))] (zup σ 214 16 ((σ 214 16) + 1)) else (ZC (e + 3) 184 [.ref 214, .int (σ 214 16)] σ (fun _ s13 => Q 0 s13)))))))))))) → (¬ z = 0 → Z (e + 3) 196 Q 83 [.ref 214, .int (nI dp), .int x, .int 0, .int 0] [] σ) → T z σ) → ZC (e + 3) 171 [.int x, .int 48, .int 57] σ T := by
    intro h40 T hT
    rw [s_in, show (if x < 48 then (0 : Int32) else if 57 < x then 0 else 1) = b2i (decide (48 ≤ C a ∧ C a ≤ 57)) from in_rng hx (lo := 48) (hi := 57) (by decide) (by decide)]
    refine hT _ ?_ (fun hz => ?_) (fun hz => ?_)
    · by_cases q : 48 ≤ C a ∧ C a ≤ 57 <;> simp [q, b2i]
    · have hd : ¬ (48 ≤ C a ∧ C a ≤ 57) := by
        intro q
        rw [decide_eq_true q] at hz
        exact absurd hz (by decide)
      have hpt : pThing C sub ok a = if vof (C a) = 99 then (false, a, []) else (true, a + 1, [nI (1000 + vof (C a))]) := by
        unfold pThing
        rcases h40 with q | q
        · rw [if_neg q, if_neg hd]
        · by_cases q2 : C a = 40
          · rw [if_pos q2, q, if_neg (by decide), if_pos (by rw [q2]; rfl)]
          · rw [if_neg q2, if_neg hd]
      have h1' : (pThing C sub ok a).1 = true → ∀ w σ', (∀ st, ex v (pThing C sub ok a).2.2 st = w :: st) → Fr pq σ σ' → RF (pThing C sub ok a).2.1 σ' → Q w σ' := h1
      have h0' : (pThing C sub ok a).1 = false → ∀ w σ', Fr pq σ σ' → RB L (pThing C sub ok a).2.1 σ' → Q w σ' := h0
      rw [hpt] at h1' h0'
      have var : ∀ c, c < 128 → vof c ≠ 99 → C a = c → ∀ (w3 w4 : Value), Z (e + 3) 196 Q 212 [.ref 214, .int (nI dp), .int x, w3, w4] [(zdec (σ 214 21))] (zup σ 214 16 ((σ 214 16) + 1)) := by
        intro c hc hv hca w3 w4
        have hxc : x = nI c := by rw [chR_eq hx hc]; exact hca
        have hvc : vof (C a) ≠ 99 := by rw [hca]; exact hv
        rw [if_neg hvc] at h1'
        have haL := inL (L := L) hC (a := a) (by omega)
        rw [hxc, hF.1, nI_1]
        have e21 : σ 214 21 = (zup σ 214 16 (nI (a + 1))) 214 21 := by simp (disch := omega) only [zup_eq, zput_app, zput_twice, upd_same, nI_1, za2, zA2, zm2, za3, zA3, zm3, za4, zA4, zm4, za9, zA9, zm9, za10, zA10, zm10, za18, zA18, zm18, za27, zA27, zm27, za36, zA36, zm36, za48, zA48, zm48, za288, zA288, zm288, zcl, zinT, upd_ne, upd_eq, zlt, znlt, zl2, zn2_, zl3, zn3_, zl5, zn5_, zl9, zn9_, zl10, zn10_, zl16, zn16_, zl20, zn20_, zl40, zn40_, zl60, zn60_, zl76, zn76_, zl80, zn80_, zl288, zn288_, zl300, zn300_, zneg, Nat.reduceEqDiff, Nat.reduceAdd, ↓reduceIte]
        rw [e21]
        refine hV _ (Fr.tr hf at_pq) (e + 2) _ c hv _ _ _ ?_
        have h9 : vof (C a) < 9 := by have := vof_cases (C a); omega
        rw [← hca]
        exact h1' rfl _ _ (fun st => ex_var h9 v st) at_pq (RF.to hF)
      have e : ∀ c, c < 128 → ((x = nI c) = (C a = c)) := fun c hc => chR_eq hx hc
      by_cases q1 : C a = 116
      · rw [if_pos (show x = 116 from (e 116 (by decide)).mpr q1)]; exact var 116 (by decide) (by decide) q1 _ _
      rw [if_neg (show ¬ x = 116 from fun q => q1 ((e 116 (by decide)).mp q))]
      by_cases q2 : C a = 121
      · rw [if_pos (show x = 121 from (e 121 (by decide)).mpr q2)]; exact var 121 (by decide) (by decide) q2 _ _
      rw [if_neg (show ¬ x = 121 from fun q => q2 ((e 121 (by decide)).mp q))]
      by_cases q3 : C a = 107
      · rw [if_pos (show x = 107 from (e 107 (by decide)).mpr q3)]; exact var 107 (by decide) (by decide) q3 _ _
      rw [if_neg (show ¬ x = 107 from fun q => q3 ((e 107 (by decide)).mp q))]
      by_cases q4 : C a = 110
      · rw [if_pos (show x = 110 from (e 110 (by decide)).mpr q4)]; exact var 110 (by decide) (by decide) q4 _ _
      rw [if_neg (show ¬ x = 110 from fun q => q4 ((e 110 (by decide)).mp q))]
      by_cases q5 : C a = 119
      · rw [if_pos (show x = 119 from (e 119 (by decide)).mpr q5)]; exact var 119 (by decide) (by decide) q5 _ _
      rw [if_neg (show ¬ x = 119 from fun q => q5 ((e 119 (by decide)).mp q))]
      by_cases q6 : C a = 109
      · rw [if_pos (show x = 109 from (e 109 (by decide)).mpr q6)]; exact var 109 (by decide) (by decide) q6 _ _
      rw [if_neg (show ¬ x = 109 from fun q => q6 ((e 109 (by decide)).mp q))]
      by_cases q7 : C a = 105
      · rw [if_pos (show x = 105 from (e 105 (by decide)).mpr q7)]; exact var 105 (by decide) (by decide) q7 _ _
      rw [if_neg (show ¬ x = 105 from fun q => q7 ((e 105 (by decide)).mp q))]
      by_cases q8 : C a = 106
      · rw [if_pos (show x = 106 from (e 106 (by decide)).mpr q8)]; exact var 106 (by decide) (by decide) q8 _ _
      rw [if_neg (show ¬ x = 106 from fun q => q8 ((e 106 (by decide)).mp q))]
      by_cases q9 : C a = 120
      · rw [if_pos (show x = 120 from (e 120 (by decide)).mpr q9)]; exact var 120 (by decide) (by decide) q9 _ _
      rw [if_neg (show ¬ x = 120 from fun q => q9 ((e 120 (by decide)).mp q))]
      have hv : vof (C a) = 99 := by
        unfold vof
        rw [if_neg q1, if_neg q2, if_neg q3, if_neg q4, if_neg q5, if_neg q6, if_neg q7, if_neg q8, if_neg q9]
      rw [if_pos hv] at h0'
      rw [r_fault hF.2, hF.1]
      exact h0' rfl _ _ wr_pq (RF.bad hF ha (by show a ≤ 100; omega))
    · have hd : 48 ≤ C a ∧ C a ≤ 57 := by
        by_cases q : 48 ≤ C a ∧ C a ≤ 57
        · exact q
        · rw [decide_eq_false q] at hz; exact absurd rfl hz
      rw [if_neg (by omega), if_pos hd] at h1
      have haL := inL (L := L) hC (a := a) (by omega)
      refine r_num hR hC 3 (by decide) a 0 σ hf hF ha (e + 1) _ _ _ (fun σ' g1 g2 => ?_)
      have e5 : pNum C 3 a 0 = pNum C 2 (a + 1) (C a - 48) := by
        conv => lhs; unfold pNum
        rw [if_pos hd, show 10 * 0 + (C a - 48) = C a - 48 by omega]
      rw [e5] at g2 ⊢
      have g3 := pNum_v (C := C) 2 (a + 1) (C a - 48)
      have h1000 : (pNum C 2 (a + 1) (C a - 48)).2 < 1000 := by
        refine Nat.lt_of_lt_of_le g3 ?_
        have : (C a - 48 + 1) * 10 ^ 2 ≤ 10 * 10 ^ 2 := Nat.mul_le_mul_right _ (by omega)
        omega
      exact h1 rfl _ _ (fun st => ex_num h1000 v st) g1 g2
  by_cases h40 : C a = 40
  · rw [if_pos h40]
    cases ok
    · have hd : ¬ (nI dp < 4) := nI_nlt (a := dp) (b := 4) (by have := (decide_eq_false_iff_not.mp hok.symm); omega) (by omega)
      rw [if_neg hd]
      refine tail (Or.inr rfl) _ (fun z hz g0 g1 => ?_)
      by_cases q : z = 0
      · rw [if_pos q]; exact g0 q
      · rw [if_neg q]; exact g1 q
    · have hd : dp < 4 := of_decide_eq_true hok.symm
      rw [if_pos h40, if_pos rfl] at h1 h0
      have haL := inL (L := L) hC (a := a) (by omega)
      rw [if_pos (show nI dp < 4 from nI_lt (b := 4) hd (by decide)), hF.1, nI_1, nI_1]
      obtain ⟨m1, m2, m3⟩ := hgd rfl (a + 1) (by omega)
      refine hsub rfl (a + 1) _ (Fr.tr hf at_pq) (RF.to hF) (by omega) _ (fun hr w σ1 hw f1 F1 => ?_) (fun hr w σ1 f1 B1 => ?_)
      · rw [hr] at h1 h0
        rw [if_pos rfl] at h1 h0
        have f01 : Fr pq σ σ1 := Fr.tr at_pq f1
        refine r_need hR (Fr.tr hf f01) F1 m2 (c := 41) (by decide) (fun hc => ?_) (fun hc => ?_)
        · rw [if_pos hc] at h1
          exact h1 rfl w _ hw (Fr.tr f01 at_pq) (RF.to F1)
        · rw [if_neg hc] at h0
          exact h0 rfl w _ (Fr.tr f01 wr_pq) (RF.bad F1 m2 (by show (sub (a + 1)).2.1 ≤ 100; omega))
      · rw [hr] at h0
        rw [if_neg (by decide)] at h0
        rw [r_needB B1]
        exact h0 rfl w _ (Fr.tr at_pq f1) B1
  · rw [if_neg h40]
    refine tail (Or.inl h40) _ (fun z hz g0 g1 => ?_)
    by_cases q : z = 0
    · rw [if_pos q]; exact g0 q
    · rw [if_neg q]; exact g1 q
theorem r_thing (hR : HR C L σ0) (hC : ∀ i, L ≤ i → C i = 999) (hL : L ≤ 40) {v : Nat → Int32} (hV : RV v σ0) {dp : Nat} {ok : Bool} {sub : Nat → PR} (hdp : dp ≤ 4) (hok : ok = decide (dp < 4)) (hgd : ok = true → ∀ a, a ≤ L → Gd L a (sub a)) {b : Nat} (hsub : ok = true → ∀ e, CR C L (e + b + 3) 193 (dp + 1) v σ0 sub) : ∀ m a (σ : zS) (e : Nat), L ≤ a + m → Fr pq σ0 σ → RF a σ → a ≤ L → ∀ Q : Int32 → zS → Prop, ((pSigned C sub ok a).1 = true → ∀ w σ', (∀ st, ex v (pSigned C sub ok a).2.2 st = w :: st) → Fr pq σ σ' → RF (pSigned C sub ok a).2.1 σ' → Q w σ') → ((pSigned C sub ok a).1 = false → ∀ w σ', Fr pq σ σ' → RB L (pSigned C sub ok a).2.1 σ' → Q w σ') → ZC (e + b + m + 4) 196 [.ref 214, .int (nI dp)] σ Q := by
  have base : ∀ m a (σ : zS) (e : Nat), C a ≠ 45 → Fr pq σ0 σ → RF a σ → a ≤ L → ∀ Q : Int32 → zS → Prop, ((pSigned C sub ok a).1 = true → ∀ w σ', (∀ st, ex v (pSigned C sub ok a).2.2 st = w :: st) → Fr pq σ σ' → RF (pSigned C sub ok a).2.1 σ' → Q w σ') → ((pSigned C sub ok a).1 = false → ∀ w σ', Fr pq σ σ' → RB L (pSigned C sub ok a).2.1 σ' → Q w σ') → ZC (e + b + m + 4) 196 [.ref 214, .int (nI dp)] σ Q := by
    intro m a σ e h45 hf hF ha Q h1 h0
    have hm : mns C 40 a = a := by unfold mns; rw [if_neg h45]
    have hps : pSigned C sub ok a = pSgn 0 (pThing C sub ok a) := by unfold pSigned; rw [hm, Nat.sub_self]
    rw [hps] at h1 h0
    unfold pSgn at h1 h0
    refine r_thing0 (e := e + b + m) hR hC hL hV hdp hok hgd (fun q => ?_) hf hF ha h45 (fun hr w σ' hw f1 F1 => ?_) (fun hr w σ' f1 B1 => ?_)
    · have := hsub q (e + m)
      rw [show e + m + b + 3 = e + b + m + 3 by omega] at this
      exact this
    · rw [hr] at h1
      simp only [↓reduceIte] at h1
      refine h1 trivial w σ' (fun st => ?_) f1 F1
      rw [if_neg (by decide), List.append_nil]
      exact hw st
    · rw [hr] at h0
      simp only [Bool.false_eq_true, ↓reduceIte] at h0
      exact h0 trivial w σ' f1 B1
  intro m
  induction m with
  | zero =>
    intro a σ e hLa hf hF ha Q h1 h0
    exact base 0 a σ e (by rw [hC a (by omega)]; decide) hf hF ha Q h1 h0
  | succ m ih =>
    intro a σ e hLa hf hF ha Q h1 h0
    by_cases h45 : C a = 45
    · have haL := inL (L := L) hC (a := a) (by omega)
      refine k_196_0 ?_
      refine r_passes hR hf hF ha (c := 45) (by decide) (fun _ => ?_) (fun q => absurd h45 q)
      rw [if_neg (by decide)]
      have hm : mns C 40 a = mns C 40 (a + 1) := by
        rw [mns_fuel hC 39 (a + 1) (by omega)]
        conv => lhs; unfold mns
        rw [if_pos h45]
      have hle := mns_le hC 40 (a + 1) (by omega)
      have hgt := pThing_gd hC hgd (a := mns C 40 (a + 1)) hle.2
      have hk : mns C 40 (a + 1) - a = mns C 40 (a + 1) - (a + 1) + 1 := by omega
      unfold pSigned pSgn at h1 h0
      rw [hm, hk] at h1 h0
      refine ih (a + 1) _ e (by omega) (Fr.tr hf at_pq) (RF.to hF) (by omega) _ (fun hr w σ' hw f1 F1 => ?_) (fun hr w σ' f1 B1 => ?_)
      · unfold pSigned pSgn at hr hw F1
        generalize pThing C sub ok (mns C 40 (a + 1)) = r at h1 h0 hr hw F1 hgt
        generalize mns C 40 (a + 1) - (a + 1) = k at h1 h0 hr hw F1
        cases hr1 : r.1
        · rw [hr1] at hr; simp at hr
        · rw [hr1] at h1 hw F1
          simp only [↓reduceIte] at h1 hw F1
          obtain ⟨w0, hw0⟩ := (hgt.2.2 hr1).2.2 v
          refine h1 trivial _ _ (fun st => ?_) (Fr.tr at_pq f1) F1
          by_cases q : k % 2 = 1
          · rw [if_pos q] at hw
            have q2 : ¬ ((k + 1) % 2 = 1) := by omega
            rw [if_neg q2, List.append_nil, hw0]
            have := hw []
            rw [ex_app, hw0] at this
            simp only [ex, ex1, ↓reduceIte] at this
            injection this with t1 t2
            rw [← t1, Int32.neg_neg]
          · rw [if_neg q, List.append_nil] at hw
            have q2 : (k + 1) % 2 = 1 := by omega
            rw [if_pos q2, ex_app, hw]
            simp only [ex, ex1, ↓reduceIte]
      · unfold pSigned pSgn at hr B1
        generalize pThing C sub ok (mns C 40 (a + 1)) = r at h1 h0 hr B1 hgt
        cases hr1 : r.1
        · rw [hr1] at h0 B1
          simp only [Bool.false_eq_true, ↓reduceIte] at h0 B1
          exact h0 trivial _ _ (Fr.tr at_pq f1) B1
        · rw [hr1] at hr; simp at hr
    · exact base (m + 1) a σ e h45 hf hF ha Q h1 h0
end RRULE2
