/-! hour, both: the call -/
theorem call_hour {d e b : Nat} {σ : zS} (h : Inv b σ) (hb : b < 90000000) : ZC (d + 8) 96 [.ref 0] σ (fun v1 σ1 => ZC (e + 228) 219 [.ref 214] σ1 (fun v2 σ2 => v1 = v2 ∧ Inv (b + 2000) σ2)) := by
  obtain ⟨C, T, hx⟩ := h.tx
  generalize hsT : zup (zup σ 1 1 0) 214 9 0 = σT
  have oT : ∀ o i, (o = 1 → i ≠ 1) → (o = 214 → i ≠ 9) → σT o i = σ o i := fun o i q1 q2 => by
    rw [← hsT]
    simp only [zup_eq, zput_app]
    by_cases q : o = 214
    · subst q; rw [if_pos rfl, upd_ne (q2 rfl), if_neg (by decide)]
    · rw [if_neg q]
      by_cases q' : o = 1
      · subst q'; rw [if_pos rfl, upd_ne (q1 rfl)]
      · rw [if_neg q']
  have hT : Inv b σT := by
    refine Inv.texted h ?_ (TX.text0 hx (by rw [← hsT]; rfl) (by rw [← hsT]; rfl) (fun i => oT 2 i (fun q => absurd q (by decide)) (fun q => absurd q (by decide))) (fun i => oT 219 i (fun q => absurd q (by decide)) (fun q => absurd q (by decide))))
    rw [← hsT]
    exact Fr.tr (Fr.up (by decide)) (Fr.up (by decide))
  obtain ⟨c, l, t, ht, hc, hcb, s, z, R, hs, hz, hpq, hpr⟩ := hT.past
  have h9 := hc.h9
  have hwr := hc.hWR
  have hD9 : ∀ o i, 13 < o → (o = 214 → i ≠ 9) → σT o i = σ o i := fun o i q1 q2 => oT o i (by omega) q2
  refine c_hour (d := d + 1) hx (fun n hn σ1 f1 z1 e10 a1 => ?_) (fun k p hT0 ho σ1 f1 z1 => ?_)
  · obtain ⟨hn20, hgd⟩ := hrN_gd hn
    have o1 : ∀ o i, 13 < o → (o = 214 → i ≠ 9) → σ1 o i = σT o i := fun o i q1 q2 => (f1 o i (decide_eq_false (by omega))).trans (hD9 o i q1 q2).symm
    have l1 : ∀ o i, o ≤ 9 → o ≠ 1 → σ1 o i = σT o i := fun o i q1 q2 => (f1 o i (decide_eq_false (by omega))).trans (oT o i (by omega) (by omega)).symm
    have hcm1 : CM 17 c.1 (σT 215) σ1 := CM.ag hc.hcm (fun o i p1 p2 => o1 o i (by omega) (by omega))
    have hcb1 : CB 32 (σT 215) σ1 := CB.ag hcb (fun _ _ _ => rfl) (fun o i p1 p2 => o1 o i (by omega) (by omega))
    have hpq1 : PQ c.1 b s z R σ1 := PQ.ag hpq (fun o i q1 q2 => o1 o i (by omega) (by omega))
    refine k_35_0 ?_
    rw [hpq1.2.1, if_pos (zin_nI hz (by decide)), zcl (by omega)]
    refine c_draftAll hz h9 hcm1 hcb1 ht hwr (fun σ2 f2 g2 => ?_)
    have o2 : ∀ o i, o < 39 ∨ 181 < o → σ2 o i = σ1 o i := fun o i q => f2 o i (decide_eq_false (by omega))
    have hpq2 : PQ c.1 b s z R σ2 := PQ.draft hs hz hpq1 f2
    have hCW : CW 14 c σ2 := by
      obtain ⟨k1, k2, k3, k4, k5, k6⟩ := hc.2.2.1
      have u : ∀ o i, o ≤ 9 → o ≠ 1 → σ2 o i = σT o i := fun o i q1 q2 => (o2 o i (by omega)).trans (l1 o i q1 q2)
      have v : ∀ o i, 13 < o → o < 39 → σ2 o i = σT o i := fun o i q1 q2 => (o2 o i (by omega)).trans (o1 o i q1 (by omega))
      exact ⟨(v 14 3 (by decide) (by decide)).trans k1, k2, fun f q => ⟨(v 15 f (by decide) (by decide)).trans (k3 f q).1, (v 16 f (by decide) (by decide)).trans (k3 f q).2⟩, (u 3 5 (by decide) (by decide)).trans k4, k5, fun i q => (u 7 i (by decide) (by decide)).trans (k6 i q)⟩
    have hRL : RL l σ2 := by
      obtain ⟨g1, g2, g3, g4⟩ := hc.2.1
      have u : ∀ o i, o ≤ 9 → o ≠ 1 → σ2 o i = σT o i := fun o i q1 q2 => (o2 o i (by omega)).trans (l1 o i q1 q2)
      exact ⟨(u 3 2 (by decide) (by decide)).trans g1, fun i hi => (u 5 i (by decide) (by decide)).trans (g2 i hi), g3, g4⟩
    have hcm2 : CM 17 c.1 (σT 215) σ2 := CM.ag hcm1 (fun o i p1 p2 => o2 o i (by omega))
    have hcb2 : CB 32 (σT 215) σ2 := CB.ag hcb1 (fun _ _ _ => rfl) (fun o i p1 p2 => o2 o i (by omega))
    refine c_hourLoop (d := d) (n := n) (C := cutC C (min T 60)) hc.1 hCW hRL hcm2 hcb2 hwr hn20 hgd ((o2 10 3 (by decide)).trans e10) (fun j hj => ?_) (by omega) (fun k σ3 hk hd hno f3 g3 cb3 => ?_) _
    · obtain ⟨b1, b2, b3⟩ := a1 j hj
      exact ⟨(o2 11 j (by decide)).trans b1, (o2 12 j (by decide)).trans b2, (o2 13 j (by decide)).trans b3⟩
    have hml := hMi_le hgd k hk
    have o3 : ∀ o i, 36 < o → σ3 o i = σ2 o i := fun o i q => f3 o i (by
      unfold pGo pw pBk
      rw [Bool.or_eq_false_iff, decide_eq_false_iff_not, decide_eq_false_iff_not]
      omega)
    have hpq3 : PQ c.1 b s z R σ3 := PQ.ag hpq2 (fun o i q1 q2 => o3 o i (by omega))
    have hsn3 : SN (39 + 11 * z) c.1 b (σT 215) σ3 := SN.ag g2 (fun o i q1 q2 => o3 o i (by omega))
    refine c_tail (d := d + 5) (n := n) hs hz hpq3.1 hpq3.2.1 hn20 hk ((f3 10 3 (by decide)).trans ((o2 10 3 (by decide)).trans e10)) (fun σ4 f4 t4 => ?_)
    generalize hsc : (if k = 0 then σ3 else zup (zup σ3 37 2 (nI ((z + 1) % 13))) 37 0 (nI (s12 s))) = σc at f4
    have oc : ∀ o i, o ≠ 37 → σc o i = σ3 o i := fun o i q => by
      rw [← hsc]
      by_cases q0 : k = 0
      · rw [if_pos q0]
      · rw [if_neg q0]
        simp only [zup_eq, zput_app]
        rw [if_neg q, if_neg q]
    have fc : Fr dMt σ3 σc := by
      rw [← hsc]
      by_cases q0 : k = 0
      · rw [if_pos q0]; exact Fr.rf
      · rw [if_neg q0]; exact Fr.tr (Fr.up (by decide)) (Fr.up (by decide))
    have hpqc : k = 0 → PQ c.1 b s z R σc := fun q0 => by rw [← hsc, if_pos q0]; exact hpq3
    have hpqc2 : 0 < k → PQ c.1 b (s12 s) ((z + 1) % 13) (nwR (σT 215) R) σc := fun q0 => by
      rw [← hsc, if_neg (by omega)]
      exact PQ.confirm hs hz hpq3 hsn3
    have o4 : ∀ o i, o ≠ 0 → o ≠ 190 → σ4 o i = σc o i := fun o i p1 p2 => f4 o i (decide_eq_false (by omega))
    have ok : ∀ o i, 181 < o → o ≠ 190 → (o = 214 → i ≠ 9) → σ4 o i = σT o i := fun o i p1 p2 p3 => (o4 o i (by omega) p2).trans ((oc o i (by omega)).trans ((o3 o i (by omega)).trans ((o2 o i (by omega)).trans (o1 o i (by omega) p3))))
    have f14 : Fr dMt σ σ4 := by
      refine Fr.tr (fr_dMt f1 (fun o i q => dMt_Hc q)) (Fr.tr (fr_dMt f2 (fun o i q => ?_)) (Fr.tr (fr_dMt f3 (fun o i q => dMt_s (dMs_go q))) (Fr.tr fc (fr_dMt f4 (fun o i q => ?_)))))
      · have := of_decide_eq_true q
        exact dMt_past (by omega)
      · rcases of_decide_eq_true q with ⟨rfl, rfl⟩ | rfl
        · rfl
        · rfl
    have h49 : σ4 214 9 = σ 214 9 := (o4 214 9 (by decide) (by decide)).trans ((oc 214 9 (by decide)).trans ((o3 214 9 (by decide)).trans ((o2 214 9 (by decide)).trans (f1 214 9 (by decide)))))
    refine r_hourYes (d := e + 223) (hx.r h49 (fun i => (ok 219 i (by decide) (by decide) (fun q => absurd q (by decide))).trans (oT 219 i (fun q => absurd q (by decide)) (fun q => absurd q (by decide))))) hn (fun σ5 x f5 z5 e224 e33 a5 => ?_)
    have o5 : ∀ o i, o ≠ 224 → o ≠ 225 → (o = 214 → ¬ (i = 9 ∨ (12 ≤ i ∧ i ≤ 17) ∨ i = 33)) → σ5 o i = σ4 o i := fun o i q1 q2 q3 => f5 o i (decide_eq_false (by omega))
    have ok5 : ∀ o i, 181 < o → o ≠ 190 → o ≠ 224 → o ≠ 225 → (o = 214 → ¬ (i = 9 ∨ (12 ≤ i ∧ i ≤ 17) ∨ i = 33)) → σ5 o i = σT o i := fun o i p1 p2 p3 p4 p5 => (o5 o i p3 p4 p5).trans (ok o i p1 p2 (by omega))
    have e215 : σ5 215 = σT 215 := funext fun i => ok5 215 i (by decide) (by decide) (by decide) (by decide) (fun q => absurd q (by decide))
    have hPF : PF 215 c l t σ5 := by
      obtain ⟨c1, -, ⟨-, -, -, -, k5, -⟩, -, c5, c6, c7, ⟨m1, m2, m3, m4⟩, -, -, -⟩ := hc
      refine ⟨c1, RRef.ag c5 (ok5 214 20 (by decide) (by decide) (by decide) (by decide) (by decide)) (fun i => ok5 222 i (by decide) (by decide) (by decide) (by decide) (fun q => absurd q (by decide))), (ok5 214 6 (by decide) (by decide) (by decide) (by decide) (by decide)).trans c6, k5, ?_, ⟨(ok5 214 1 (by decide) (by decide) (by decide) (by decide) (by decide)).trans m1, ?_, ?_, m4⟩, ?_⟩
      · rw [← c7]; exact funext fun i => ok5 218 i (by decide) (by decide) (by decide) (by decide) (fun q => absurd q (by decide))
      · rw [← m2]; exact funext fun i => ok5 216 i (by decide) (by decide) (by decide) (by decide) (fun q => absurd q (by decide))
      · rw [← m3]; exact funext fun i => ok5 217 i (by decide) (by decide) (by decide) (by decide) (fun q => absurd q (by decide))
      · rw [e215]; exact hwr
    refine r_hourLoop (e := e) (n := n) (k := k) (C := cutC C (min T 60)) hPF e215 ((ok5 214 7 (by decide) (by decide) (by decide) (by decide) (by decide)).trans hc.2.2.2.2.2.2.2.2.2.1) e33 hn20 hgd a5 (by omega) hk hd hno (fun σ6 f6 e6 s6 => ?_) x
    have o6 : ∀ o i, o ≠ 215 → o ≠ 214 → σ6 o i = σ5 o i := fun o i q1 q2 => f6 o i (by
      unfold pAr pR
      rw [decide_eq_false q1, decide_eq_false q2, decide_eq_false (show ¬ (o = 214 ∧ i = 33) from fun q => q2 q.1)]
      rfl)
    have hpr6 : PRr s R σ6 := PRr.ag hpr ((f6 214 30 (by decide)).trans (ok5 214 30 (by decide) (by decide) (by decide) (by decide) (by decide))) (fun i => (o6 223 i (by decide) (by decide)).trans (ok5 223 i (by decide) (by decide) (by decide) (by decide) (fun q => absurd q (by decide))))
    refine r_tail (e := e + 225) (n := n) hs hn20 hk hpr6 s6 (fun σ7 σ8 q1 q2 f8 t8 => ⟨rfl, ?_⟩)
    have o7 : ∀ o i, o ≠ 223 → (o = 214 → i ≠ 30) → σ7 o i = σ6 o i := fun o i p1 p2 => by
      by_cases q0 : k = 0
      · rw [q1 q0]
      · exact (q2 (by omega)).1 o i (decide_eq_false (by omega))
    have o8 : ∀ o i, o ≠ 220 → (o = 214 → i ≠ 11) → σ8 o i = σ7 o i := fun o i p1 p2 => by
      refine (f8 o i (decide_eq_false (by omega))).trans ?_
      rw [zup_eq, zput_app]
      by_cases q : o = 214
      · subst q; rw [if_pos rfl, upd_ne (p2 rfl)]
      · rw [if_neg q]
    have lo8 : ∀ o i, o < 214 → σ8 o i = σ4 o i := fun o i q => (o8 o i (by omega) (by omega)).trans ((o7 o i (by omega) (by omega)).trans ((o6 o i (by omega) (by omega)).trans (o5 o i (by omega) (by omega) (by omega))))
    have f48 : Fr dMt σ4 σ8 := by
      refine Fr.tr (fr_dMt f5 (fun o i q => dMt_Hr q)) (Fr.tr (fr_dMt f6 (fun o i q => dMt_Ar q)) (Fr.tr (?_ : Fr dMt σ6 σ7) (Fr.tr (Fr.up (by decide)) (fr_dMt f8 (fun o i q => ?_)))))
      · by_cases q0 : k = 0
        · rw [q1 q0]; exact Fr.rf
        · refine fr_dMt (q2 (by omega)).1 (fun o i q => ?_)
          rcases of_decide_eq_true q with ⟨rfl, rfl⟩ | rfl
          · rfl
          · rfl
      · rcases of_decide_eq_true q with ⟨rfl, rfl⟩ | rfl
        · rfl
        · rfl
    have fT : Fr dMs σT σ8 := fun o i q => by
      by_cases h1 : o = 1 ∧ i = 1
      · obtain ⟨rfl, rfl⟩ := h1
        rw [lo8 1 1 (by decide), o4 1 1 (by decide) (by decide), oc 1 1 (by decide), f3 1 1 (by decide), o2 1 1 (by decide), z1, ← hsT]
        rfl
      · by_cases h2 : o = 214 ∧ i = 9
        · obtain ⟨rfl, rfl⟩ := h2
          rw [o8 214 9 (by decide) (by decide), o7 214 9 (by decide) (by decide), f6 214 9 (by decide), z5, ← hsT]
          rfl
        · rw [oT o i (fun q3 q4 => h1 ⟨q3, q4⟩) (fun q3 q4 => h2 ⟨q3, q4⟩)]
          refine (Fr.tr f14 f48) o i ?_
          unfold dMt
          rw [Bool.or_eq_false_iff, decide_eq_false_iff_not]
          exact ⟨q, fun q3 => q3.elim h1 h2⟩
    have e8 : σ8 215 = hRw c (σT 215) (cutC C (min T 60)) k := by
      rw [← e6]
      exact funext fun i => (o8 215 i (by decide) (fun q => absurd q (by decide))).trans (o7 215 i (by decide) (fun q => absurd q (by decide)))
    have lo3 : ∀ o i, 13 < o → o < 37 → σ8 o i = σ3 o i := fun o i p1 p2 => (lo8 o i (by omega)).trans ((o4 o i (by omega) (by omega)).trans (oc o i (by omega)))
    have hcm8 : CM 17 c.1 (hRw c (σT 215) (cutC C (min T 60)) k) σ8 := CM.ag g3 (fun o i p1 p2 => lo3 o i (by omega) (by omega))
    have hcb8 : CB 32 (hRw c (σT 215) (cutC C (min T 60)) k) σ8 := CB.ag cb3 (fun _ _ _ => rfl) (fun o i p1 p2 => lo3 o i (by omega) (by omega))
    have hw8 := hRw_WR h9 hwr hgd k hk hd
    have htd : pTold σ8 := pTold.two (a := if k < n then 1 else 0) (b := hAl c (σT 215) (cutC C (min T 60)) k) ⟨(lo8 0 12 (by decide)).trans t4.1, fun i hi => (lo8 190 i (by decide)).trans (t4.2 i hi)⟩ t8
    have pqc : ∀ o i, 37 ≤ o → o ≤ 181 → σ8 o i = σc o i := fun o i p1 p2 => (lo8 o i (by omega)).trans (o4 o i (by omega) (by omega))
    by_cases q0 : k = 0
    · have hp8 : PRr s R σ8 := PRr.ag hpr6 ((o8 214 30 (by decide) (by decide)).trans (by rw [q1 q0])) (fun i => (o8 223 i (by decide) (fun q => absurd q (by decide))).trans (by rw [q1 q0]))
      exact (Inv.movedN (n := hMi (cutC C (min T 60)) k) hT hc ht hs hz fT hcm8 hcb8 e8 hw8 (PQ.ag (hpqc q0) pqc) hp8 htd).mono (by omega)
    · obtain ⟨-, q3⟩ := q2 (by omega)
      have hp8 : PRr (s12 s) (nwR (σT 215) R) σ8 := by
        refine PRr.cong (PRr.ag q3 (o8 214 30 (by decide) (by decide)) (fun i => o8 223 i (by decide) (fun q => absurd q (by decide)))) (fun j hj i hi => ?_)
        unfold nwR
        by_cases hj0 : j = 0
        · rw [if_pos hj0, if_pos hj0, o6 224 i (by decide) (by decide), e224 i hi]
          exact (ok 215 i (by decide) (by decide) (fun q => absurd q (by decide))).symm
        · rw [if_neg hj0, if_neg hj0]
      exact (Inv.movedN (n := hMi (cutC C (min T 60)) k) hT hc ht (s12_le hs) (Nat.mod_lt (z + 1) (by decide)) fT hcm8 hcb8 e8 hw8 (PQ.ag (hpqc2 (by omega)) pqc) hp8 htd).mono (by omega)
  · have o1 : ∀ o i, 13 < o → σ1 o i = σ o i := fun o i q => f1 o i (decide_eq_false (by omega))
    refine r_hourNo (hx.r (o1 214 9 (by decide)) (fun i => o1 219 i (by decide))) hT0 ho (fun σ2 f2 z2 => ⟨rfl, ?_⟩)
    have l2 : ∀ o i, o ≠ 214 → o ≠ 225 → σ2 o i = σ1 o i := fun o i q1 q2 => f2 o i (decide_eq_false (by omega))
    refine (Inv.texted h (Fr.tr (Fr.mono f1 (fun o i q => ?_)) (Fr.mono f2 (fun o i q => ?_))) (TX.text0 hx ((l2 1 1 (by decide) (by decide)).trans z1) z2 (fun i => (l2 2 i (by decide) (by decide)).trans (f1 2 i (by simp [pHc]))) (fun i => (l2 219 i (by decide) (by decide)).trans (o1 219 i (by decide))))).mono (Nat.le_add_right b 2000)
    · unfold dTs scr dText at q
      rw [Bool.or_eq_false_iff, decide_eq_false_iff_not, decide_eq_false_iff_not] at q
      unfold pHc
      rw [decide_eq_false_iff_not]
      omega
    · unfold dTs scr dText at q
      rw [Bool.or_eq_false_iff, decide_eq_false_iff_not, decide_eq_false_iff_not] at q
      unfold pHq
      rw [decide_eq_false_iff_not]
      omega
