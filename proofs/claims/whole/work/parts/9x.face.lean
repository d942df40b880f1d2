/-! the three questions that may throw -/
def Ans (dc mc : Nat) (ac : List Value) (dr mr : Nat) (ar : List Value) (b : Nat) (σ : zS) : Prop := ZC dc mc ac σ (fun v1 σ1 => ZC dr mr ar σ1 (fun v2 σ2 => v1 = v2 ∧ σ2 214 12 = 0 ∧ Inv b σ2))
def Lost (dr mr : Nat) (ar : List Value) (b : Nat) (σ : zS) : Prop := ZC dr mr ar σ (fun _ σ2 => σ2 214 12 = 1 ∧ Inv b σ2)
theorem ans_q {dc mc dr mr b : Nat} {ac ar : List Value} {σ : zS} (h : Inv b σ) (V : Int32) (hc : ∀ Q : Int32 → zS → Prop, Q V σ → ZC dc mc ac σ Q) (hr : ∀ Q : Int32 → zS → Prop, Q V (zup σ 214 12 0) → ZC dr mr ar σ Q) : Ans dc mc ac dr mr ar b σ :=
  hc _ (hr _ ⟨rfl, rfl, Inv.sc h (FrRs fr12)⟩)
theorem fr1201 {σ : zS} : Fr scR σ (zup (zup σ 214 12 0) 214 12 1) := Fr.tr fr12 (Fr.up (by decide))
theorem lost_q {dr mr b : Nat} {ar : List Value} {σ : zS} (h : Inv b σ) (hr : ∀ Q : Int32 → zS → Prop, Q 0 (zup (zup σ 214 12 0) 214 12 1) → ZC dr mr ar σ Q) : Lost dr mr ar b σ :=
  hr _ ⟨rfl, Inv.sc h (FrRs fr1201)⟩
theorem r_lost {d : Nat} {σ : zS} (Q : Int32 → zS → Prop) (h : Q 0 (zup σ 214 12 1)) : ZC (d + 1) 173 [.ref 214] σ Q := k_173_0 h
theorem call_faceX {e b : Nat} {σ : zS} (x y : Int32) (h : Inv b σ) (hx : (∀ d : Nat, ∀ Q : Int32 → zS → Prop, ZC (d + 1) 134 [.ref 0, .int x] σ Q = Q 0 σ) ∨ y < 0 ∨ 7 < y) : Lost (e + 3) 200 [.ref 214, .int x, .int y] b σ := by
  obtain ⟨c, l, t, ht, hc⟩ := h.ctx
  have h9 := hc.h9
  have hR : (zup σ 214 12 0) 214 1 = nI c.1 := hc.hR
  refine lost_q h (fun Q hq => ?_)
  refine k_200_0 ?_
  rcases faceC x h9 with hb | ⟨f, hf, rfl⟩
  · rw [r_isFace0 hR h9 hb, if_pos rfl]
    exact r_lost _ hq
  · rw [r_isFace1 hR h9 hf, if_neg (by decide)]
    rcases hx with hx | hx
    · have h1 := hx 0 (fun v _ => v = 1)
      rw [c_isFace1 hc.h14 h9 hf] at h1
      have h2 : (0 : Int32) = 1 := h1 ▸ rfl
      exact absurd h2 (by decide)
    · rw [s_in0 hx, if_pos rfl]
      exact r_lost _ hq
