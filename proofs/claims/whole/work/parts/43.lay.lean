/-! copies -/
theorem cpy_at (f g : Nat → Int32) (n : Nat) (hn : n < 2147483648) (i : Nat) : va_cpy f g (Int32.toNatClampNeg 0) (Int32.toNatClampNeg 0) (Int32.toNatClampNeg (nI n)) i = if i < n then f i else g i := by
  rw [nI_clamp hn]
  show (if 0 ≤ i ∧ i < 0 + n then f (0 + (i - 0)) else g i) = _
  by_cases h : i < n
  · rw [if_pos ⟨by omega, by omega⟩, if_pos h, Nat.zero_add, Nat.sub_zero]
  · rw [if_neg (by omega), if_neg h]
def MCp (A B : Nat) (σ σ' : zS) : Prop := (∀ i, i < 9 → σ' (A + 1) i = σ (B + 1) i ∧ σ' (A + 2) i = σ (B + 2) i ∧ σ' (A + 3) i = σ (B + 3) i ∧ σ' (A + 4) i = σ (B + 4) i) ∧ σ' A 4 = σ B 4 ∧ σ' A 5 = σ B 5 ∧ σ' A 6 = σ B 6
theorem CM.copy {A B F : Nat} {r : Nat → Int32} {σ σ' : zS} (hF : F ≤ 9) (hm : MCp A B σ σ') (h : CM B F r σ) : CM A F r σ' := by
  obtain ⟨m1, m2, m3, m4⟩ := hm
  obtain ⟨h1, h2, h3, h4, h5⟩ := h
  refine ⟨fun f hf => ?_, fun f hf hf2 => ?_, fun f hf hf2 => ?_, m3.trans h4, m4.trans h5⟩
  · obtain ⟨a1, a2, a3, a4⟩ := m1 f (by omega)
    rw [a1, a2, a3, a4, m2]
    exact h1 f hf
  · obtain ⟨a1, a2, a3, a4⟩ := m1 f hf2
    rw [a2, a3, a4]
    exact h2 f hf hf2
  · rw [m2]; exact h3 f hf hf2
def BCp (A B : Nat) (σ σ' : zS) : Prop := (∀ i, i < 60 → σ' (A + 1) i = σ (B + 1) i ∧ σ' (A + 2) i = σ (B + 2) i ∧ σ' (A + 3) i = σ (B + 3) i ∧ σ' (A + 4) i = σ (B + 4) i) ∧ σ' A 4 = σ B 4 ∧ σ' A 5 = σ B 5
theorem CB.copy {A B : Nat} {r : Nat → Int32} {σ σ' : zS} (hm : BCp A B σ σ') (h : CB B r σ) : CB A r σ' := by
  obtain ⟨m1, m2, m3⟩ := hm
  obtain ⟨y, h0, h1, h2, h3, h4⟩ := h
  refine ⟨y, h0, h1, m2.trans h2, m3.trans h3, fun p hp => ?_⟩
  obtain ⟨a1, a2, a3, a4⟩ := m1 p hp
  rw [a1, a2, a3, a4]
  exact h4 p hp
theorem c_mtake26_17 {d : Nat} {σ : zS} {Q : Int32 → zS → Prop} (h : ∀ σ', Fr (fun o _ => decide (26 ≤ o ∧ o ≤ 30)) σ σ' → MCp 26 17 σ σ' → Q 0 σ') : ZC (d + 1) 26 [.ref 26, .ref 17] σ Q := by
  refine k_26_0_i26_17 ?_
  refine h _ ?_ ⟨fun i hi => ?_, rfl, rfl, rfl⟩
  · intro o i q
    simp only [decide_eq_false_iff_not] at q
    have n0 : o ≠ 26 := by omega
    have n1 : o ≠ 27 := by omega
    have n2 : o ≠ 28 := by omega
    have n3 : o ≠ 29 := by omega
    have n4 : o ≠ 30 := by omega
    simp only [zup_eq, zput_app, n0, n1, n2, n3, n4, ↓reduceIte]
  · have e : ∀ f g : Nat → Int32, va_cpy f g (Int32.toNatClampNeg 0) (Int32.toNatClampNeg 0) (Int32.toNatClampNeg 9) i = f i := fun f g => (cpy_at f g 9 (by decide) i).trans (if_pos hi)
    simp only [zup_eq, zput_app, Nat.reduceEqDiff, ↓reduceIte, e, Nat.reduceAdd, and_self]
theorem c_mtake40_17 {d : Nat} {σ : zS} {Q : Int32 → zS → Prop} (h : ∀ σ', Fr (fun o _ => decide (40 ≤ o ∧ o ≤ 44)) σ σ' → MCp 40 17 σ σ' → Q 0 σ') : ZC (d + 1) 26 [.ref 40, .ref 17] σ Q := by
  refine k_26_0_i40_17 ?_
  refine h _ ?_ ⟨fun i hi => ?_, rfl, rfl, rfl⟩
  · intro o i q
    simp only [decide_eq_false_iff_not] at q
    have n0 : o ≠ 40 := by omega
    have n1 : o ≠ 41 := by omega
    have n2 : o ≠ 42 := by omega
    have n3 : o ≠ 43 := by omega
    have n4 : o ≠ 44 := by omega
    simp only [zup_eq, zput_app, n0, n1, n2, n3, n4, ↓reduceIte]
  · have e : ∀ f g : Nat → Int32, va_cpy f g (Int32.toNatClampNeg 0) (Int32.toNatClampNeg 0) (Int32.toNatClampNeg 9) i = f i := fun f g => (cpy_at f g 9 (by decide) i).trans (if_pos hi)
    simp only [zup_eq, zput_app, Nat.reduceEqDiff, ↓reduceIte, e, Nat.reduceAdd, and_self]
theorem c_mtake51_17 {d : Nat} {σ : zS} {Q : Int32 → zS → Prop} (h : ∀ σ', Fr (fun o _ => decide (51 ≤ o ∧ o ≤ 55)) σ σ' → MCp 51 17 σ σ' → Q 0 σ') : ZC (d + 1) 26 [.ref 51, .ref 17] σ Q := by
  refine k_26_0_i51_17 ?_
  refine h _ ?_ ⟨fun i hi => ?_, rfl, rfl, rfl⟩
  · intro o i q
    simp only [decide_eq_false_iff_not] at q
    have n0 : o ≠ 51 := by omega
    have n1 : o ≠ 52 := by omega
    have n2 : o ≠ 53 := by omega
    have n3 : o ≠ 54 := by omega
    have n4 : o ≠ 55 := by omega
    simp only [zup_eq, zput_app, n0, n1, n2, n3, n4, ↓reduceIte]
  · have e : ∀ f g : Nat → Int32, va_cpy f g (Int32.toNatClampNeg 0) (Int32.toNatClampNeg 0) (Int32.toNatClampNeg 9) i = f i := fun f g => (cpy_at f g 9 (by decide) i).trans (if_pos hi)
    simp only [zup_eq, zput_app, Nat.reduceEqDiff, ↓reduceIte, e, Nat.reduceAdd, and_self]
theorem c_mtake62_17 {d : Nat} {σ : zS} {Q : Int32 → zS → Prop} (h : ∀ σ', Fr (fun o _ => decide (62 ≤ o ∧ o ≤ 66)) σ σ' → MCp 62 17 σ σ' → Q 0 σ') : ZC (d + 1) 26 [.ref 62, .ref 17] σ Q := by
  refine k_26_0_i62_17 ?_
  refine h _ ?_ ⟨fun i hi => ?_, rfl, rfl, rfl⟩
  · intro o i q
    simp only [decide_eq_false_iff_not] at q
    have n0 : o ≠ 62 := by omega
    have n1 : o ≠ 63 := by omega
    have n2 : o ≠ 64 := by omega
    have n3 : o ≠ 65 := by omega
    have n4 : o ≠ 66 := by omega
    simp only [zup_eq, zput_app, n0, n1, n2, n3, n4, ↓reduceIte]
  · have e : ∀ f g : Nat → Int32, va_cpy f g (Int32.toNatClampNeg 0) (Int32.toNatClampNeg 0) (Int32.toNatClampNeg 9) i = f i := fun f g => (cpy_at f g 9 (by decide) i).trans (if_pos hi)
    simp only [zup_eq, zput_app, Nat.reduceEqDiff, ↓reduceIte, e, Nat.reduceAdd, and_self]
theorem c_mtake73_17 {d : Nat} {σ : zS} {Q : Int32 → zS → Prop} (h : ∀ σ', Fr (fun o _ => decide (73 ≤ o ∧ o ≤ 77)) σ σ' → MCp 73 17 σ σ' → Q 0 σ') : ZC (d + 1) 26 [.ref 73, .ref 17] σ Q := by
  refine k_26_0_i73_17 ?_
  refine h _ ?_ ⟨fun i hi => ?_, rfl, rfl, rfl⟩
  · intro o i q
    simp only [decide_eq_false_iff_not] at q
    have n0 : o ≠ 73 := by omega
    have n1 : o ≠ 74 := by omega
    have n2 : o ≠ 75 := by omega
    have n3 : o ≠ 76 := by omega
    have n4 : o ≠ 77 := by omega
    simp only [zup_eq, zput_app, n0, n1, n2, n3, n4, ↓reduceIte]
  · have e : ∀ f g : Nat → Int32, va_cpy f g (Int32.toNatClampNeg 0) (Int32.toNatClampNeg 0) (Int32.toNatClampNeg 9) i = f i := fun f g => (cpy_at f g 9 (by decide) i).trans (if_pos hi)
    simp only [zup_eq, zput_app, Nat.reduceEqDiff, ↓reduceIte, e, Nat.reduceAdd, and_self]
theorem c_mtake84_17 {d : Nat} {σ : zS} {Q : Int32 → zS → Prop} (h : ∀ σ', Fr (fun o _ => decide (84 ≤ o ∧ o ≤ 88)) σ σ' → MCp 84 17 σ σ' → Q 0 σ') : ZC (d + 1) 26 [.ref 84, .ref 17] σ Q := by
  refine k_26_0_i84_17 ?_
  refine h _ ?_ ⟨fun i hi => ?_, rfl, rfl, rfl⟩
  · intro o i q
    simp only [decide_eq_false_iff_not] at q
    have n0 : o ≠ 84 := by omega
    have n1 : o ≠ 85 := by omega
    have n2 : o ≠ 86 := by omega
    have n3 : o ≠ 87 := by omega
    have n4 : o ≠ 88 := by omega
    simp only [zup_eq, zput_app, n0, n1, n2, n3, n4, ↓reduceIte]
  · have e : ∀ f g : Nat → Int32, va_cpy f g (Int32.toNatClampNeg 0) (Int32.toNatClampNeg 0) (Int32.toNatClampNeg 9) i = f i := fun f g => (cpy_at f g 9 (by decide) i).trans (if_pos hi)
    simp only [zup_eq, zput_app, Nat.reduceEqDiff, ↓reduceIte, e, Nat.reduceAdd, and_self]
theorem c_mtake95_17 {d : Nat} {σ : zS} {Q : Int32 → zS → Prop} (h : ∀ σ', Fr (fun o _ => decide (95 ≤ o ∧ o ≤ 99)) σ σ' → MCp 95 17 σ σ' → Q 0 σ') : ZC (d + 1) 26 [.ref 95, .ref 17] σ Q := by
  refine k_26_0_i95_17 ?_
  refine h _ ?_ ⟨fun i hi => ?_, rfl, rfl, rfl⟩
  · intro o i q
    simp only [decide_eq_false_iff_not] at q
    have n0 : o ≠ 95 := by omega
    have n1 : o ≠ 96 := by omega
    have n2 : o ≠ 97 := by omega
    have n3 : o ≠ 98 := by omega
    have n4 : o ≠ 99 := by omega
    simp only [zup_eq, zput_app, n0, n1, n2, n3, n4, ↓reduceIte]
  · have e : ∀ f g : Nat → Int32, va_cpy f g (Int32.toNatClampNeg 0) (Int32.toNatClampNeg 0) (Int32.toNatClampNeg 9) i = f i := fun f g => (cpy_at f g 9 (by decide) i).trans (if_pos hi)
    simp only [zup_eq, zput_app, Nat.reduceEqDiff, ↓reduceIte, e, Nat.reduceAdd, and_self]
theorem c_mtake106_17 {d : Nat} {σ : zS} {Q : Int32 → zS → Prop} (h : ∀ σ', Fr (fun o _ => decide (106 ≤ o ∧ o ≤ 110)) σ σ' → MCp 106 17 σ σ' → Q 0 σ') : ZC (d + 1) 26 [.ref 106, .ref 17] σ Q := by
  refine k_26_0_i106_17 ?_
  refine h _ ?_ ⟨fun i hi => ?_, rfl, rfl, rfl⟩
  · intro o i q
    simp only [decide_eq_false_iff_not] at q
    have n0 : o ≠ 106 := by omega
    have n1 : o ≠ 107 := by omega
    have n2 : o ≠ 108 := by omega
    have n3 : o ≠ 109 := by omega
    have n4 : o ≠ 110 := by omega
    simp only [zup_eq, zput_app, n0, n1, n2, n3, n4, ↓reduceIte]
  · have e : ∀ f g : Nat → Int32, va_cpy f g (Int32.toNatClampNeg 0) (Int32.toNatClampNeg 0) (Int32.toNatClampNeg 9) i = f i := fun f g => (cpy_at f g 9 (by decide) i).trans (if_pos hi)
    simp only [zup_eq, zput_app, Nat.reduceEqDiff, ↓reduceIte, e, Nat.reduceAdd, and_self]
theorem c_mtake117_17 {d : Nat} {σ : zS} {Q : Int32 → zS → Prop} (h : ∀ σ', Fr (fun o _ => decide (117 ≤ o ∧ o ≤ 121)) σ σ' → MCp 117 17 σ σ' → Q 0 σ') : ZC (d + 1) 26 [.ref 117, .ref 17] σ Q := by
  refine k_26_0_i117_17 ?_
  refine h _ ?_ ⟨fun i hi => ?_, rfl, rfl, rfl⟩
  · intro o i q
    simp only [decide_eq_false_iff_not] at q
    have n0 : o ≠ 117 := by omega
    have n1 : o ≠ 118 := by omega
    have n2 : o ≠ 119 := by omega
    have n3 : o ≠ 120 := by omega
    have n4 : o ≠ 121 := by omega
    simp only [zup_eq, zput_app, n0, n1, n2, n3, n4, ↓reduceIte]
  · have e : ∀ f g : Nat → Int32, va_cpy f g (Int32.toNatClampNeg 0) (Int32.toNatClampNeg 0) (Int32.toNatClampNeg 9) i = f i := fun f g => (cpy_at f g 9 (by decide) i).trans (if_pos hi)
    simp only [zup_eq, zput_app, Nat.reduceEqDiff, ↓reduceIte, e, Nat.reduceAdd, and_self]
theorem c_mtake128_17 {d : Nat} {σ : zS} {Q : Int32 → zS → Prop} (h : ∀ σ', Fr (fun o _ => decide (128 ≤ o ∧ o ≤ 132)) σ σ' → MCp 128 17 σ σ' → Q 0 σ') : ZC (d + 1) 26 [.ref 128, .ref 17] σ Q := by
  refine k_26_0_i128_17 ?_
  refine h _ ?_ ⟨fun i hi => ?_, rfl, rfl, rfl⟩
  · intro o i q
    simp only [decide_eq_false_iff_not] at q
    have n0 : o ≠ 128 := by omega
    have n1 : o ≠ 129 := by omega
    have n2 : o ≠ 130 := by omega
    have n3 : o ≠ 131 := by omega
    have n4 : o ≠ 132 := by omega
    simp only [zup_eq, zput_app, n0, n1, n2, n3, n4, ↓reduceIte]
  · have e : ∀ f g : Nat → Int32, va_cpy f g (Int32.toNatClampNeg 0) (Int32.toNatClampNeg 0) (Int32.toNatClampNeg 9) i = f i := fun f g => (cpy_at f g 9 (by decide) i).trans (if_pos hi)
    simp only [zup_eq, zput_app, Nat.reduceEqDiff, ↓reduceIte, e, Nat.reduceAdd, and_self]
theorem c_mtake139_17 {d : Nat} {σ : zS} {Q : Int32 → zS → Prop} (h : ∀ σ', Fr (fun o _ => decide (139 ≤ o ∧ o ≤ 143)) σ σ' → MCp 139 17 σ σ' → Q 0 σ') : ZC (d + 1) 26 [.ref 139, .ref 17] σ Q := by
  refine k_26_0_i139_17 ?_
  refine h _ ?_ ⟨fun i hi => ?_, rfl, rfl, rfl⟩
  · intro o i q
    simp only [decide_eq_false_iff_not] at q
    have n0 : o ≠ 139 := by omega
    have n1 : o ≠ 140 := by omega
    have n2 : o ≠ 141 := by omega
    have n3 : o ≠ 142 := by omega
    have n4 : o ≠ 143 := by omega
    simp only [zup_eq, zput_app, n0, n1, n2, n3, n4, ↓reduceIte]
  · have e : ∀ f g : Nat → Int32, va_cpy f g (Int32.toNatClampNeg 0) (Int32.toNatClampNeg 0) (Int32.toNatClampNeg 9) i = f i := fun f g => (cpy_at f g 9 (by decide) i).trans (if_pos hi)
    simp only [zup_eq, zput_app, Nat.reduceEqDiff, ↓reduceIte, e, Nat.reduceAdd, and_self]
theorem c_mtake150_17 {d : Nat} {σ : zS} {Q : Int32 → zS → Prop} (h : ∀ σ', Fr (fun o _ => decide (150 ≤ o ∧ o ≤ 154)) σ σ' → MCp 150 17 σ σ' → Q 0 σ') : ZC (d + 1) 26 [.ref 150, .ref 17] σ Q := by
  refine k_26_0_i150_17 ?_
  refine h _ ?_ ⟨fun i hi => ?_, rfl, rfl, rfl⟩
  · intro o i q
    simp only [decide_eq_false_iff_not] at q
    have n0 : o ≠ 150 := by omega
    have n1 : o ≠ 151 := by omega
    have n2 : o ≠ 152 := by omega
    have n3 : o ≠ 153 := by omega
    have n4 : o ≠ 154 := by omega
    simp only [zup_eq, zput_app, n0, n1, n2, n3, n4, ↓reduceIte]
  · have e : ∀ f g : Nat → Int32, va_cpy f g (Int32.toNatClampNeg 0) (Int32.toNatClampNeg 0) (Int32.toNatClampNeg 9) i = f i := fun f g => (cpy_at f g 9 (by decide) i).trans (if_pos hi)
    simp only [zup_eq, zput_app, Nat.reduceEqDiff, ↓reduceIte, e, Nat.reduceAdd, and_self]
theorem c_mtake161_17 {d : Nat} {σ : zS} {Q : Int32 → zS → Prop} (h : ∀ σ', Fr (fun o _ => decide (161 ≤ o ∧ o ≤ 165)) σ σ' → MCp 161 17 σ σ' → Q 0 σ') : ZC (d + 1) 26 [.ref 161, .ref 17] σ Q := by
  refine k_26_0_i161_17 ?_
  refine h _ ?_ ⟨fun i hi => ?_, rfl, rfl, rfl⟩
  · intro o i q
    simp only [decide_eq_false_iff_not] at q
    have n0 : o ≠ 161 := by omega
    have n1 : o ≠ 162 := by omega
    have n2 : o ≠ 163 := by omega
    have n3 : o ≠ 164 := by omega
    have n4 : o ≠ 165 := by omega
    simp only [zup_eq, zput_app, n0, n1, n2, n3, n4, ↓reduceIte]
  · have e : ∀ f g : Nat → Int32, va_cpy f g (Int32.toNatClampNeg 0) (Int32.toNatClampNeg 0) (Int32.toNatClampNeg 9) i = f i := fun f g => (cpy_at f g 9 (by decide) i).trans (if_pos hi)
    simp only [zup_eq, zput_app, Nat.reduceEqDiff, ↓reduceIte, e, Nat.reduceAdd, and_self]
theorem c_mtake172_17 {d : Nat} {σ : zS} {Q : Int32 → zS → Prop} (h : ∀ σ', Fr (fun o _ => decide (172 ≤ o ∧ o ≤ 176)) σ σ' → MCp 172 17 σ σ' → Q 0 σ') : ZC (d + 1) 26 [.ref 172, .ref 17] σ Q := by
  refine k_26_0_i172_17 ?_
  refine h _ ?_ ⟨fun i hi => ?_, rfl, rfl, rfl⟩
  · intro o i q
    simp only [decide_eq_false_iff_not] at q
    have n0 : o ≠ 172 := by omega
    have n1 : o ≠ 173 := by omega
    have n2 : o ≠ 174 := by omega
    have n3 : o ≠ 175 := by omega
    have n4 : o ≠ 176 := by omega
    simp only [zup_eq, zput_app, n0, n1, n2, n3, n4, ↓reduceIte]
  · have e : ∀ f g : Nat → Int32, va_cpy f g (Int32.toNatClampNeg 0) (Int32.toNatClampNeg 0) (Int32.toNatClampNeg 9) i = f i := fun f g => (cpy_at f g 9 (by decide) i).trans (if_pos hi)
    simp only [zup_eq, zput_app, Nat.reduceEqDiff, ↓reduceIte, e, Nat.reduceAdd, and_self]
theorem c_mtake193_17 {d : Nat} {σ : zS} {Q : Int32 → zS → Prop} (h : ∀ σ', Fr (fun o _ => decide (193 ≤ o ∧ o ≤ 197)) σ σ' → MCp 193 17 σ σ' → Q 0 σ') : ZC (d + 1) 26 [.ref 193, .ref 17] σ Q := by
  refine k_26_0_i193_17 ?_
  refine h _ ?_ ⟨fun i hi => ?_, rfl, rfl, rfl⟩
  · intro o i q
    simp only [decide_eq_false_iff_not] at q
    have n0 : o ≠ 193 := by omega
    have n1 : o ≠ 194 := by omega
    have n2 : o ≠ 195 := by omega
    have n3 : o ≠ 196 := by omega
    have n4 : o ≠ 197 := by omega
    simp only [zup_eq, zput_app, n0, n1, n2, n3, n4, ↓reduceIte]
  · have e : ∀ f g : Nat → Int32, va_cpy f g (Int32.toNatClampNeg 0) (Int32.toNatClampNeg 0) (Int32.toNatClampNeg 9) i = f i := fun f g => (cpy_at f g 9 (by decide) i).trans (if_pos hi)
    simp only [zup_eq, zput_app, Nat.reduceEqDiff, ↓reduceIte, e, Nat.reduceAdd, and_self]
theorem c_mtake204_17 {d : Nat} {σ : zS} {Q : Int32 → zS → Prop} (h : ∀ σ', Fr (fun o _ => decide (204 ≤ o ∧ o ≤ 208)) σ σ' → MCp 204 17 σ σ' → Q 0 σ') : ZC (d + 1) 26 [.ref 204, .ref 17] σ Q := by
  refine k_26_0_i204_17 ?_
  refine h _ ?_ ⟨fun i hi => ?_, rfl, rfl, rfl⟩
  · intro o i q
    simp only [decide_eq_false_iff_not] at q
    have n0 : o ≠ 204 := by omega
    have n1 : o ≠ 205 := by omega
    have n2 : o ≠ 206 := by omega
    have n3 : o ≠ 207 := by omega
    have n4 : o ≠ 208 := by omega
    simp only [zup_eq, zput_app, n0, n1, n2, n3, n4, ↓reduceIte]
  · have e : ∀ f g : Nat → Int32, va_cpy f g (Int32.toNatClampNeg 0) (Int32.toNatClampNeg 0) (Int32.toNatClampNeg 9) i = f i := fun f g => (cpy_at f g 9 (by decide) i).trans (if_pos hi)
    simp only [zup_eq, zput_app, Nat.reduceEqDiff, ↓reduceIte, e, Nat.reduceAdd, and_self]
theorem c_mtake17_40 {d : Nat} {σ : zS} {Q : Int32 → zS → Prop} (h : ∀ σ', Fr (fun o _ => decide (17 ≤ o ∧ o ≤ 21)) σ σ' → MCp 17 40 σ σ' → Q 0 σ') : ZC (d + 1) 26 [.ref 17, .ref 40] σ Q := by
  refine k_26_0_i17_40 ?_
  refine h _ ?_ ⟨fun i hi => ?_, rfl, rfl, rfl⟩
  · intro o i q
    simp only [decide_eq_false_iff_not] at q
    have n0 : o ≠ 17 := by omega
    have n1 : o ≠ 18 := by omega
    have n2 : o ≠ 19 := by omega
    have n3 : o ≠ 20 := by omega
    have n4 : o ≠ 21 := by omega
    simp only [zup_eq, zput_app, n0, n1, n2, n3, n4, ↓reduceIte]
  · have e : ∀ f g : Nat → Int32, va_cpy f g (Int32.toNatClampNeg 0) (Int32.toNatClampNeg 0) (Int32.toNatClampNeg 9) i = f i := fun f g => (cpy_at f g 9 (by decide) i).trans (if_pos hi)
    simp only [zup_eq, zput_app, Nat.reduceEqDiff, ↓reduceIte, e, Nat.reduceAdd, and_self]
theorem c_mtake17_51 {d : Nat} {σ : zS} {Q : Int32 → zS → Prop} (h : ∀ σ', Fr (fun o _ => decide (17 ≤ o ∧ o ≤ 21)) σ σ' → MCp 17 51 σ σ' → Q 0 σ') : ZC (d + 1) 26 [.ref 17, .ref 51] σ Q := by
  refine k_26_0_i17_51 ?_
  refine h _ ?_ ⟨fun i hi => ?_, rfl, rfl, rfl⟩
  · intro o i q
    simp only [decide_eq_false_iff_not] at q
    have n0 : o ≠ 17 := by omega
    have n1 : o ≠ 18 := by omega
    have n2 : o ≠ 19 := by omega
    have n3 : o ≠ 20 := by omega
    have n4 : o ≠ 21 := by omega
    simp only [zup_eq, zput_app, n0, n1, n2, n3, n4, ↓reduceIte]
  · have e : ∀ f g : Nat → Int32, va_cpy f g (Int32.toNatClampNeg 0) (Int32.toNatClampNeg 0) (Int32.toNatClampNeg 9) i = f i := fun f g => (cpy_at f g 9 (by decide) i).trans (if_pos hi)
    simp only [zup_eq, zput_app, Nat.reduceEqDiff, ↓reduceIte, e, Nat.reduceAdd, and_self]
theorem c_mtake17_62 {d : Nat} {σ : zS} {Q : Int32 → zS → Prop} (h : ∀ σ', Fr (fun o _ => decide (17 ≤ o ∧ o ≤ 21)) σ σ' → MCp 17 62 σ σ' → Q 0 σ') : ZC (d + 1) 26 [.ref 17, .ref 62] σ Q := by
  refine k_26_0_i17_62 ?_
  refine h _ ?_ ⟨fun i hi => ?_, rfl, rfl, rfl⟩
  · intro o i q
    simp only [decide_eq_false_iff_not] at q
    have n0 : o ≠ 17 := by omega
    have n1 : o ≠ 18 := by omega
    have n2 : o ≠ 19 := by omega
    have n3 : o ≠ 20 := by omega
    have n4 : o ≠ 21 := by omega
    simp only [zup_eq, zput_app, n0, n1, n2, n3, n4, ↓reduceIte]
  · have e : ∀ f g : Nat → Int32, va_cpy f g (Int32.toNatClampNeg 0) (Int32.toNatClampNeg 0) (Int32.toNatClampNeg 9) i = f i := fun f g => (cpy_at f g 9 (by decide) i).trans (if_pos hi)
    simp only [zup_eq, zput_app, Nat.reduceEqDiff, ↓reduceIte, e, Nat.reduceAdd, and_self]
theorem c_mtake17_73 {d : Nat} {σ : zS} {Q : Int32 → zS → Prop} (h : ∀ σ', Fr (fun o _ => decide (17 ≤ o ∧ o ≤ 21)) σ σ' → MCp 17 73 σ σ' → Q 0 σ') : ZC (d + 1) 26 [.ref 17, .ref 73] σ Q := by
  refine k_26_0_i17_73 ?_
  refine h _ ?_ ⟨fun i hi => ?_, rfl, rfl, rfl⟩
  · intro o i q
    simp only [decide_eq_false_iff_not] at q
    have n0 : o ≠ 17 := by omega
    have n1 : o ≠ 18 := by omega
    have n2 : o ≠ 19 := by omega
    have n3 : o ≠ 20 := by omega
    have n4 : o ≠ 21 := by omega
    simp only [zup_eq, zput_app, n0, n1, n2, n3, n4, ↓reduceIte]
  · have e : ∀ f g : Nat → Int32, va_cpy f g (Int32.toNatClampNeg 0) (Int32.toNatClampNeg 0) (Int32.toNatClampNeg 9) i = f i := fun f g => (cpy_at f g 9 (by decide) i).trans (if_pos hi)
    simp only [zup_eq, zput_app, Nat.reduceEqDiff, ↓reduceIte, e, Nat.reduceAdd, and_self]
theorem c_mtake17_84 {d : Nat} {σ : zS} {Q : Int32 → zS → Prop} (h : ∀ σ', Fr (fun o _ => decide (17 ≤ o ∧ o ≤ 21)) σ σ' → MCp 17 84 σ σ' → Q 0 σ') : ZC (d + 1) 26 [.ref 17, .ref 84] σ Q := by
  refine k_26_0_i17_84 ?_
  refine h _ ?_ ⟨fun i hi => ?_, rfl, rfl, rfl⟩
  · intro o i q
    simp only [decide_eq_false_iff_not] at q
    have n0 : o ≠ 17 := by omega
    have n1 : o ≠ 18 := by omega
    have n2 : o ≠ 19 := by omega
    have n3 : o ≠ 20 := by omega
    have n4 : o ≠ 21 := by omega
    simp only [zup_eq, zput_app, n0, n1, n2, n3, n4, ↓reduceIte]
  · have e : ∀ f g : Nat → Int32, va_cpy f g (Int32.toNatClampNeg 0) (Int32.toNatClampNeg 0) (Int32.toNatClampNeg 9) i = f i := fun f g => (cpy_at f g 9 (by decide) i).trans (if_pos hi)
    simp only [zup_eq, zput_app, Nat.reduceEqDiff, ↓reduceIte, e, Nat.reduceAdd, and_self]
theorem c_mtake17_95 {d : Nat} {σ : zS} {Q : Int32 → zS → Prop} (h : ∀ σ', Fr (fun o _ => decide (17 ≤ o ∧ o ≤ 21)) σ σ' → MCp 17 95 σ σ' → Q 0 σ') : ZC (d + 1) 26 [.ref 17, .ref 95] σ Q := by
  refine k_26_0_i17_95 ?_
  refine h _ ?_ ⟨fun i hi => ?_, rfl, rfl, rfl⟩
  · intro o i q
    simp only [decide_eq_false_iff_not] at q
    have n0 : o ≠ 17 := by omega
    have n1 : o ≠ 18 := by omega
    have n2 : o ≠ 19 := by omega
    have n3 : o ≠ 20 := by omega
    have n4 : o ≠ 21 := by omega
    simp only [zup_eq, zput_app, n0, n1, n2, n3, n4, ↓reduceIte]
  · have e : ∀ f g : Nat → Int32, va_cpy f g (Int32.toNatClampNeg 0) (Int32.toNatClampNeg 0) (Int32.toNatClampNeg 9) i = f i := fun f g => (cpy_at f g 9 (by decide) i).trans (if_pos hi)
    simp only [zup_eq, zput_app, Nat.reduceEqDiff, ↓reduceIte, e, Nat.reduceAdd, and_self]
theorem c_mtake17_106 {d : Nat} {σ : zS} {Q : Int32 → zS → Prop} (h : ∀ σ', Fr (fun o _ => decide (17 ≤ o ∧ o ≤ 21)) σ σ' → MCp 17 106 σ σ' → Q 0 σ') : ZC (d + 1) 26 [.ref 17, .ref 106] σ Q := by
  refine k_26_0_i17_106 ?_
  refine h _ ?_ ⟨fun i hi => ?_, rfl, rfl, rfl⟩
  · intro o i q
    simp only [decide_eq_false_iff_not] at q
    have n0 : o ≠ 17 := by omega
    have n1 : o ≠ 18 := by omega
    have n2 : o ≠ 19 := by omega
    have n3 : o ≠ 20 := by omega
    have n4 : o ≠ 21 := by omega
    simp only [zup_eq, zput_app, n0, n1, n2, n3, n4, ↓reduceIte]
  · have e : ∀ f g : Nat → Int32, va_cpy f g (Int32.toNatClampNeg 0) (Int32.toNatClampNeg 0) (Int32.toNatClampNeg 9) i = f i := fun f g => (cpy_at f g 9 (by decide) i).trans (if_pos hi)
    simp only [zup_eq, zput_app, Nat.reduceEqDiff, ↓reduceIte, e, Nat.reduceAdd, and_self]
theorem c_mtake17_117 {d : Nat} {σ : zS} {Q : Int32 → zS → Prop} (h : ∀ σ', Fr (fun o _ => decide (17 ≤ o ∧ o ≤ 21)) σ σ' → MCp 17 117 σ σ' → Q 0 σ') : ZC (d + 1) 26 [.ref 17, .ref 117] σ Q := by
  refine k_26_0_i17_117 ?_
  refine h _ ?_ ⟨fun i hi => ?_, rfl, rfl, rfl⟩
  · intro o i q
    simp only [decide_eq_false_iff_not] at q
    have n0 : o ≠ 17 := by omega
    have n1 : o ≠ 18 := by omega
    have n2 : o ≠ 19 := by omega
    have n3 : o ≠ 20 := by omega
    have n4 : o ≠ 21 := by omega
    simp only [zup_eq, zput_app, n0, n1, n2, n3, n4, ↓reduceIte]
  · have e : ∀ f g : Nat → Int32, va_cpy f g (Int32.toNatClampNeg 0) (Int32.toNatClampNeg 0) (Int32.toNatClampNeg 9) i = f i := fun f g => (cpy_at f g 9 (by decide) i).trans (if_pos hi)
    simp only [zup_eq, zput_app, Nat.reduceEqDiff, ↓reduceIte, e, Nat.reduceAdd, and_self]
theorem c_mtake17_128 {d : Nat} {σ : zS} {Q : Int32 → zS → Prop} (h : ∀ σ', Fr (fun o _ => decide (17 ≤ o ∧ o ≤ 21)) σ σ' → MCp 17 128 σ σ' → Q 0 σ') : ZC (d + 1) 26 [.ref 17, .ref 128] σ Q := by
  refine k_26_0_i17_128 ?_
  refine h _ ?_ ⟨fun i hi => ?_, rfl, rfl, rfl⟩
  · intro o i q
    simp only [decide_eq_false_iff_not] at q
    have n0 : o ≠ 17 := by omega
    have n1 : o ≠ 18 := by omega
    have n2 : o ≠ 19 := by omega
    have n3 : o ≠ 20 := by omega
    have n4 : o ≠ 21 := by omega
    simp only [zup_eq, zput_app, n0, n1, n2, n3, n4, ↓reduceIte]
  · have e : ∀ f g : Nat → Int32, va_cpy f g (Int32.toNatClampNeg 0) (Int32.toNatClampNeg 0) (Int32.toNatClampNeg 9) i = f i := fun f g => (cpy_at f g 9 (by decide) i).trans (if_pos hi)
    simp only [zup_eq, zput_app, Nat.reduceEqDiff, ↓reduceIte, e, Nat.reduceAdd, and_self]
theorem c_mtake17_139 {d : Nat} {σ : zS} {Q : Int32 → zS → Prop} (h : ∀ σ', Fr (fun o _ => decide (17 ≤ o ∧ o ≤ 21)) σ σ' → MCp 17 139 σ σ' → Q 0 σ') : ZC (d + 1) 26 [.ref 17, .ref 139] σ Q := by
  refine k_26_0_i17_139 ?_
  refine h _ ?_ ⟨fun i hi => ?_, rfl, rfl, rfl⟩
  · intro o i q
    simp only [decide_eq_false_iff_not] at q
    have n0 : o ≠ 17 := by omega
    have n1 : o ≠ 18 := by omega
    have n2 : o ≠ 19 := by omega
    have n3 : o ≠ 20 := by omega
    have n4 : o ≠ 21 := by omega
    simp only [zup_eq, zput_app, n0, n1, n2, n3, n4, ↓reduceIte]
  · have e : ∀ f g : Nat → Int32, va_cpy f g (Int32.toNatClampNeg 0) (Int32.toNatClampNeg 0) (Int32.toNatClampNeg 9) i = f i := fun f g => (cpy_at f g 9 (by decide) i).trans (if_pos hi)
    simp only [zup_eq, zput_app, Nat.reduceEqDiff, ↓reduceIte, e, Nat.reduceAdd, and_self]
theorem c_mtake17_150 {d : Nat} {σ : zS} {Q : Int32 → zS → Prop} (h : ∀ σ', Fr (fun o _ => decide (17 ≤ o ∧ o ≤ 21)) σ σ' → MCp 17 150 σ σ' → Q 0 σ') : ZC (d + 1) 26 [.ref 17, .ref 150] σ Q := by
  refine k_26_0_i17_150 ?_
  refine h _ ?_ ⟨fun i hi => ?_, rfl, rfl, rfl⟩
  · intro o i q
    simp only [decide_eq_false_iff_not] at q
    have n0 : o ≠ 17 := by omega
    have n1 : o ≠ 18 := by omega
    have n2 : o ≠ 19 := by omega
    have n3 : o ≠ 20 := by omega
    have n4 : o ≠ 21 := by omega
    simp only [zup_eq, zput_app, n0, n1, n2, n3, n4, ↓reduceIte]
  · have e : ∀ f g : Nat → Int32, va_cpy f g (Int32.toNatClampNeg 0) (Int32.toNatClampNeg 0) (Int32.toNatClampNeg 9) i = f i := fun f g => (cpy_at f g 9 (by decide) i).trans (if_pos hi)
    simp only [zup_eq, zput_app, Nat.reduceEqDiff, ↓reduceIte, e, Nat.reduceAdd, and_self]
theorem c_mtake17_161 {d : Nat} {σ : zS} {Q : Int32 → zS → Prop} (h : ∀ σ', Fr (fun o _ => decide (17 ≤ o ∧ o ≤ 21)) σ σ' → MCp 17 161 σ σ' → Q 0 σ') : ZC (d + 1) 26 [.ref 17, .ref 161] σ Q := by
  refine k_26_0_i17_161 ?_
  refine h _ ?_ ⟨fun i hi => ?_, rfl, rfl, rfl⟩
  · intro o i q
    simp only [decide_eq_false_iff_not] at q
    have n0 : o ≠ 17 := by omega
    have n1 : o ≠ 18 := by omega
    have n2 : o ≠ 19 := by omega
    have n3 : o ≠ 20 := by omega
    have n4 : o ≠ 21 := by omega
    simp only [zup_eq, zput_app, n0, n1, n2, n3, n4, ↓reduceIte]
  · have e : ∀ f g : Nat → Int32, va_cpy f g (Int32.toNatClampNeg 0) (Int32.toNatClampNeg 0) (Int32.toNatClampNeg 9) i = f i := fun f g => (cpy_at f g 9 (by decide) i).trans (if_pos hi)
    simp only [zup_eq, zput_app, Nat.reduceEqDiff, ↓reduceIte, e, Nat.reduceAdd, and_self]
theorem c_mtake17_172 {d : Nat} {σ : zS} {Q : Int32 → zS → Prop} (h : ∀ σ', Fr (fun o _ => decide (17 ≤ o ∧ o ≤ 21)) σ σ' → MCp 17 172 σ σ' → Q 0 σ') : ZC (d + 1) 26 [.ref 17, .ref 172] σ Q := by
  refine k_26_0_i17_172 ?_
  refine h _ ?_ ⟨fun i hi => ?_, rfl, rfl, rfl⟩
  · intro o i q
    simp only [decide_eq_false_iff_not] at q
    have n0 : o ≠ 17 := by omega
    have n1 : o ≠ 18 := by omega
    have n2 : o ≠ 19 := by omega
    have n3 : o ≠ 20 := by omega
    have n4 : o ≠ 21 := by omega
    simp only [zup_eq, zput_app, n0, n1, n2, n3, n4, ↓reduceIte]
  · have e : ∀ f g : Nat → Int32, va_cpy f g (Int32.toNatClampNeg 0) (Int32.toNatClampNeg 0) (Int32.toNatClampNeg 9) i = f i := fun f g => (cpy_at f g 9 (by decide) i).trans (if_pos hi)
    simp only [zup_eq, zput_app, Nat.reduceEqDiff, ↓reduceIte, e, Nat.reduceAdd, and_self]
theorem c_mtake17_193 {d : Nat} {σ : zS} {Q : Int32 → zS → Prop} (h : ∀ σ', Fr (fun o _ => decide (17 ≤ o ∧ o ≤ 21)) σ σ' → MCp 17 193 σ σ' → Q 0 σ') : ZC (d + 1) 26 [.ref 17, .ref 193] σ Q := by
  refine k_26_0_i17_193 ?_
  refine h _ ?_ ⟨fun i hi => ?_, rfl, rfl, rfl⟩
  · intro o i q
    simp only [decide_eq_false_iff_not] at q
    have n0 : o ≠ 17 := by omega
    have n1 : o ≠ 18 := by omega
    have n2 : o ≠ 19 := by omega
    have n3 : o ≠ 20 := by omega
    have n4 : o ≠ 21 := by omega
    simp only [zup_eq, zput_app, n0, n1, n2, n3, n4, ↓reduceIte]
  · have e : ∀ f g : Nat → Int32, va_cpy f g (Int32.toNatClampNeg 0) (Int32.toNatClampNeg 0) (Int32.toNatClampNeg 9) i = f i := fun f g => (cpy_at f g 9 (by decide) i).trans (if_pos hi)
    simp only [zup_eq, zput_app, Nat.reduceEqDiff, ↓reduceIte, e, Nat.reduceAdd, and_self]
theorem c_mtake17_204 {d : Nat} {σ : zS} {Q : Int32 → zS → Prop} (h : ∀ σ', Fr (fun o _ => decide (17 ≤ o ∧ o ≤ 21)) σ σ' → MCp 17 204 σ σ' → Q 0 σ') : ZC (d + 1) 26 [.ref 17, .ref 204] σ Q := by
  refine k_26_0_i17_204 ?_
  refine h _ ?_ ⟨fun i hi => ?_, rfl, rfl, rfl⟩
  · intro o i q
    simp only [decide_eq_false_iff_not] at q
    have n0 : o ≠ 17 := by omega
    have n1 : o ≠ 18 := by omega
    have n2 : o ≠ 19 := by omega
    have n3 : o ≠ 20 := by omega
    have n4 : o ≠ 21 := by omega
    simp only [zup_eq, zput_app, n0, n1, n2, n3, n4, ↓reduceIte]
  · have e : ∀ f g : Nat → Int32, va_cpy f g (Int32.toNatClampNeg 0) (Int32.toNatClampNeg 0) (Int32.toNatClampNeg 9) i = f i := fun f g => (cpy_at f g 9 (by decide) i).trans (if_pos hi)
    simp only [zup_eq, zput_app, Nat.reduceEqDiff, ↓reduceIte, e, Nat.reduceAdd, and_self]
theorem c_btake45_32 {d : Nat} {σ : zS} {Q : Int32 → zS → Prop} (h : ∀ σ', Fr (fun o _ => decide (45 ≤ o ∧ o ≤ 49)) σ σ' → BCp 45 32 σ σ' → Q 0 σ') : ZC (d + 1) 12 [.ref 45, .ref 32] σ Q := by
  refine k_12_0_i45_32 ?_
  refine h _ ?_ ⟨fun i hi => ?_, rfl, rfl⟩
  · intro o i q
    simp only [decide_eq_false_iff_not] at q
    have n0 : o ≠ 45 := by omega
    have n1 : o ≠ 46 := by omega
    have n2 : o ≠ 47 := by omega
    have n3 : o ≠ 48 := by omega
    have n4 : o ≠ 49 := by omega
    simp only [zup_eq, zput_app, n0, n1, n2, n3, n4, ↓reduceIte]
  · have e : ∀ f g : Nat → Int32, va_cpy f g (Int32.toNatClampNeg 0) (Int32.toNatClampNeg 0) (Int32.toNatClampNeg 60) i = f i := fun f g => (cpy_at f g 60 (by decide) i).trans (if_pos hi)
    simp only [zup_eq, zput_app, Nat.reduceEqDiff, ↓reduceIte, e, Nat.reduceAdd, and_self]
theorem c_btake56_32 {d : Nat} {σ : zS} {Q : Int32 → zS → Prop} (h : ∀ σ', Fr (fun o _ => decide (56 ≤ o ∧ o ≤ 60)) σ σ' → BCp 56 32 σ σ' → Q 0 σ') : ZC (d + 1) 12 [.ref 56, .ref 32] σ Q := by
  refine k_12_0_i56_32 ?_
  refine h _ ?_ ⟨fun i hi => ?_, rfl, rfl⟩
  · intro o i q
    simp only [decide_eq_false_iff_not] at q
    have n0 : o ≠ 56 := by omega
    have n1 : o ≠ 57 := by omega
    have n2 : o ≠ 58 := by omega
    have n3 : o ≠ 59 := by omega
    have n4 : o ≠ 60 := by omega
    simp only [zup_eq, zput_app, n0, n1, n2, n3, n4, ↓reduceIte]
  · have e : ∀ f g : Nat → Int32, va_cpy f g (Int32.toNatClampNeg 0) (Int32.toNatClampNeg 0) (Int32.toNatClampNeg 60) i = f i := fun f g => (cpy_at f g 60 (by decide) i).trans (if_pos hi)
    simp only [zup_eq, zput_app, Nat.reduceEqDiff, ↓reduceIte, e, Nat.reduceAdd, and_self]
theorem c_btake67_32 {d : Nat} {σ : zS} {Q : Int32 → zS → Prop} (h : ∀ σ', Fr (fun o _ => decide (67 ≤ o ∧ o ≤ 71)) σ σ' → BCp 67 32 σ σ' → Q 0 σ') : ZC (d + 1) 12 [.ref 67, .ref 32] σ Q := by
  refine k_12_0_i67_32 ?_
  refine h _ ?_ ⟨fun i hi => ?_, rfl, rfl⟩
  · intro o i q
    simp only [decide_eq_false_iff_not] at q
    have n0 : o ≠ 67 := by omega
    have n1 : o ≠ 68 := by omega
    have n2 : o ≠ 69 := by omega
    have n3 : o ≠ 70 := by omega
    have n4 : o ≠ 71 := by omega
    simp only [zup_eq, zput_app, n0, n1, n2, n3, n4, ↓reduceIte]
  · have e : ∀ f g : Nat → Int32, va_cpy f g (Int32.toNatClampNeg 0) (Int32.toNatClampNeg 0) (Int32.toNatClampNeg 60) i = f i := fun f g => (cpy_at f g 60 (by decide) i).trans (if_pos hi)
    simp only [zup_eq, zput_app, Nat.reduceEqDiff, ↓reduceIte, e, Nat.reduceAdd, and_self]
theorem c_btake78_32 {d : Nat} {σ : zS} {Q : Int32 → zS → Prop} (h : ∀ σ', Fr (fun o _ => decide (78 ≤ o ∧ o ≤ 82)) σ σ' → BCp 78 32 σ σ' → Q 0 σ') : ZC (d + 1) 12 [.ref 78, .ref 32] σ Q := by
  refine k_12_0_i78_32 ?_
  refine h _ ?_ ⟨fun i hi => ?_, rfl, rfl⟩
  · intro o i q
    simp only [decide_eq_false_iff_not] at q
    have n0 : o ≠ 78 := by omega
    have n1 : o ≠ 79 := by omega
    have n2 : o ≠ 80 := by omega
    have n3 : o ≠ 81 := by omega
    have n4 : o ≠ 82 := by omega
    simp only [zup_eq, zput_app, n0, n1, n2, n3, n4, ↓reduceIte]
  · have e : ∀ f g : Nat → Int32, va_cpy f g (Int32.toNatClampNeg 0) (Int32.toNatClampNeg 0) (Int32.toNatClampNeg 60) i = f i := fun f g => (cpy_at f g 60 (by decide) i).trans (if_pos hi)
    simp only [zup_eq, zput_app, Nat.reduceEqDiff, ↓reduceIte, e, Nat.reduceAdd, and_self]
theorem c_btake89_32 {d : Nat} {σ : zS} {Q : Int32 → zS → Prop} (h : ∀ σ', Fr (fun o _ => decide (89 ≤ o ∧ o ≤ 93)) σ σ' → BCp 89 32 σ σ' → Q 0 σ') : ZC (d + 1) 12 [.ref 89, .ref 32] σ Q := by
  refine k_12_0_i89_32 ?_
  refine h _ ?_ ⟨fun i hi => ?_, rfl, rfl⟩
  · intro o i q
    simp only [decide_eq_false_iff_not] at q
    have n0 : o ≠ 89 := by omega
    have n1 : o ≠ 90 := by omega
    have n2 : o ≠ 91 := by omega
    have n3 : o ≠ 92 := by omega
    have n4 : o ≠ 93 := by omega
    simp only [zup_eq, zput_app, n0, n1, n2, n3, n4, ↓reduceIte]
  · have e : ∀ f g : Nat → Int32, va_cpy f g (Int32.toNatClampNeg 0) (Int32.toNatClampNeg 0) (Int32.toNatClampNeg 60) i = f i := fun f g => (cpy_at f g 60 (by decide) i).trans (if_pos hi)
    simp only [zup_eq, zput_app, Nat.reduceEqDiff, ↓reduceIte, e, Nat.reduceAdd, and_self]
theorem c_btake100_32 {d : Nat} {σ : zS} {Q : Int32 → zS → Prop} (h : ∀ σ', Fr (fun o _ => decide (100 ≤ o ∧ o ≤ 104)) σ σ' → BCp 100 32 σ σ' → Q 0 σ') : ZC (d + 1) 12 [.ref 100, .ref 32] σ Q := by
  refine k_12_0_i100_32 ?_
  refine h _ ?_ ⟨fun i hi => ?_, rfl, rfl⟩
  · intro o i q
    simp only [decide_eq_false_iff_not] at q
    have n0 : o ≠ 100 := by omega
    have n1 : o ≠ 101 := by omega
    have n2 : o ≠ 102 := by omega
    have n3 : o ≠ 103 := by omega
    have n4 : o ≠ 104 := by omega
    simp only [zup_eq, zput_app, n0, n1, n2, n3, n4, ↓reduceIte]
  · have e : ∀ f g : Nat → Int32, va_cpy f g (Int32.toNatClampNeg 0) (Int32.toNatClampNeg 0) (Int32.toNatClampNeg 60) i = f i := fun f g => (cpy_at f g 60 (by decide) i).trans (if_pos hi)
    simp only [zup_eq, zput_app, Nat.reduceEqDiff, ↓reduceIte, e, Nat.reduceAdd, and_self]
theorem c_btake111_32 {d : Nat} {σ : zS} {Q : Int32 → zS → Prop} (h : ∀ σ', Fr (fun o _ => decide (111 ≤ o ∧ o ≤ 115)) σ σ' → BCp 111 32 σ σ' → Q 0 σ') : ZC (d + 1) 12 [.ref 111, .ref 32] σ Q := by
  refine k_12_0_i111_32 ?_
  refine h _ ?_ ⟨fun i hi => ?_, rfl, rfl⟩
  · intro o i q
    simp only [decide_eq_false_iff_not] at q
    have n0 : o ≠ 111 := by omega
    have n1 : o ≠ 112 := by omega
    have n2 : o ≠ 113 := by omega
    have n3 : o ≠ 114 := by omega
    have n4 : o ≠ 115 := by omega
    simp only [zup_eq, zput_app, n0, n1, n2, n3, n4, ↓reduceIte]
  · have e : ∀ f g : Nat → Int32, va_cpy f g (Int32.toNatClampNeg 0) (Int32.toNatClampNeg 0) (Int32.toNatClampNeg 60) i = f i := fun f g => (cpy_at f g 60 (by decide) i).trans (if_pos hi)
    simp only [zup_eq, zput_app, Nat.reduceEqDiff, ↓reduceIte, e, Nat.reduceAdd, and_self]
theorem c_btake122_32 {d : Nat} {σ : zS} {Q : Int32 → zS → Prop} (h : ∀ σ', Fr (fun o _ => decide (122 ≤ o ∧ o ≤ 126)) σ σ' → BCp 122 32 σ σ' → Q 0 σ') : ZC (d + 1) 12 [.ref 122, .ref 32] σ Q := by
  refine k_12_0_i122_32 ?_
  refine h _ ?_ ⟨fun i hi => ?_, rfl, rfl⟩
  · intro o i q
    simp only [decide_eq_false_iff_not] at q
    have n0 : o ≠ 122 := by omega
    have n1 : o ≠ 123 := by omega
    have n2 : o ≠ 124 := by omega
    have n3 : o ≠ 125 := by omega
    have n4 : o ≠ 126 := by omega
    simp only [zup_eq, zput_app, n0, n1, n2, n3, n4, ↓reduceIte]
  · have e : ∀ f g : Nat → Int32, va_cpy f g (Int32.toNatClampNeg 0) (Int32.toNatClampNeg 0) (Int32.toNatClampNeg 60) i = f i := fun f g => (cpy_at f g 60 (by decide) i).trans (if_pos hi)
    simp only [zup_eq, zput_app, Nat.reduceEqDiff, ↓reduceIte, e, Nat.reduceAdd, and_self]
theorem c_btake133_32 {d : Nat} {σ : zS} {Q : Int32 → zS → Prop} (h : ∀ σ', Fr (fun o _ => decide (133 ≤ o ∧ o ≤ 137)) σ σ' → BCp 133 32 σ σ' → Q 0 σ') : ZC (d + 1) 12 [.ref 133, .ref 32] σ Q := by
  refine k_12_0_i133_32 ?_
  refine h _ ?_ ⟨fun i hi => ?_, rfl, rfl⟩
  · intro o i q
    simp only [decide_eq_false_iff_not] at q
    have n0 : o ≠ 133 := by omega
    have n1 : o ≠ 134 := by omega
    have n2 : o ≠ 135 := by omega
    have n3 : o ≠ 136 := by omega
    have n4 : o ≠ 137 := by omega
    simp only [zup_eq, zput_app, n0, n1, n2, n3, n4, ↓reduceIte]
  · have e : ∀ f g : Nat → Int32, va_cpy f g (Int32.toNatClampNeg 0) (Int32.toNatClampNeg 0) (Int32.toNatClampNeg 60) i = f i := fun f g => (cpy_at f g 60 (by decide) i).trans (if_pos hi)
    simp only [zup_eq, zput_app, Nat.reduceEqDiff, ↓reduceIte, e, Nat.reduceAdd, and_self]
theorem c_btake144_32 {d : Nat} {σ : zS} {Q : Int32 → zS → Prop} (h : ∀ σ', Fr (fun o _ => decide (144 ≤ o ∧ o ≤ 148)) σ σ' → BCp 144 32 σ σ' → Q 0 σ') : ZC (d + 1) 12 [.ref 144, .ref 32] σ Q := by
  refine k_12_0_i144_32 ?_
  refine h _ ?_ ⟨fun i hi => ?_, rfl, rfl⟩
  · intro o i q
    simp only [decide_eq_false_iff_not] at q
    have n0 : o ≠ 144 := by omega
    have n1 : o ≠ 145 := by omega
    have n2 : o ≠ 146 := by omega
    have n3 : o ≠ 147 := by omega
    have n4 : o ≠ 148 := by omega
    simp only [zup_eq, zput_app, n0, n1, n2, n3, n4, ↓reduceIte]
  · have e : ∀ f g : Nat → Int32, va_cpy f g (Int32.toNatClampNeg 0) (Int32.toNatClampNeg 0) (Int32.toNatClampNeg 60) i = f i := fun f g => (cpy_at f g 60 (by decide) i).trans (if_pos hi)
    simp only [zup_eq, zput_app, Nat.reduceEqDiff, ↓reduceIte, e, Nat.reduceAdd, and_self]
theorem c_btake155_32 {d : Nat} {σ : zS} {Q : Int32 → zS → Prop} (h : ∀ σ', Fr (fun o _ => decide (155 ≤ o ∧ o ≤ 159)) σ σ' → BCp 155 32 σ σ' → Q 0 σ') : ZC (d + 1) 12 [.ref 155, .ref 32] σ Q := by
  refine k_12_0_i155_32 ?_
  refine h _ ?_ ⟨fun i hi => ?_, rfl, rfl⟩
  · intro o i q
    simp only [decide_eq_false_iff_not] at q
    have n0 : o ≠ 155 := by omega
    have n1 : o ≠ 156 := by omega
    have n2 : o ≠ 157 := by omega
    have n3 : o ≠ 158 := by omega
    have n4 : o ≠ 159 := by omega
    simp only [zup_eq, zput_app, n0, n1, n2, n3, n4, ↓reduceIte]
  · have e : ∀ f g : Nat → Int32, va_cpy f g (Int32.toNatClampNeg 0) (Int32.toNatClampNeg 0) (Int32.toNatClampNeg 60) i = f i := fun f g => (cpy_at f g 60 (by decide) i).trans (if_pos hi)
    simp only [zup_eq, zput_app, Nat.reduceEqDiff, ↓reduceIte, e, Nat.reduceAdd, and_self]
theorem c_btake166_32 {d : Nat} {σ : zS} {Q : Int32 → zS → Prop} (h : ∀ σ', Fr (fun o _ => decide (166 ≤ o ∧ o ≤ 170)) σ σ' → BCp 166 32 σ σ' → Q 0 σ') : ZC (d + 1) 12 [.ref 166, .ref 32] σ Q := by
  refine k_12_0_i166_32 ?_
  refine h _ ?_ ⟨fun i hi => ?_, rfl, rfl⟩
  · intro o i q
    simp only [decide_eq_false_iff_not] at q
    have n0 : o ≠ 166 := by omega
    have n1 : o ≠ 167 := by omega
    have n2 : o ≠ 168 := by omega
    have n3 : o ≠ 169 := by omega
    have n4 : o ≠ 170 := by omega
    simp only [zup_eq, zput_app, n0, n1, n2, n3, n4, ↓reduceIte]
  · have e : ∀ f g : Nat → Int32, va_cpy f g (Int32.toNatClampNeg 0) (Int32.toNatClampNeg 0) (Int32.toNatClampNeg 60) i = f i := fun f g => (cpy_at f g 60 (by decide) i).trans (if_pos hi)
    simp only [zup_eq, zput_app, Nat.reduceEqDiff, ↓reduceIte, e, Nat.reduceAdd, and_self]
theorem c_btake177_32 {d : Nat} {σ : zS} {Q : Int32 → zS → Prop} (h : ∀ σ', Fr (fun o _ => decide (177 ≤ o ∧ o ≤ 181)) σ σ' → BCp 177 32 σ σ' → Q 0 σ') : ZC (d + 1) 12 [.ref 177, .ref 32] σ Q := by
  refine k_12_0_i177_32 ?_
  refine h _ ?_ ⟨fun i hi => ?_, rfl, rfl⟩
  · intro o i q
    simp only [decide_eq_false_iff_not] at q
    have n0 : o ≠ 177 := by omega
    have n1 : o ≠ 178 := by omega
    have n2 : o ≠ 179 := by omega
    have n3 : o ≠ 180 := by omega
    have n4 : o ≠ 181 := by omega
    simp only [zup_eq, zput_app, n0, n1, n2, n3, n4, ↓reduceIte]
  · have e : ∀ f g : Nat → Int32, va_cpy f g (Int32.toNatClampNeg 0) (Int32.toNatClampNeg 0) (Int32.toNatClampNeg 60) i = f i := fun f g => (cpy_at f g 60 (by decide) i).trans (if_pos hi)
    simp only [zup_eq, zput_app, Nat.reduceEqDiff, ↓reduceIte, e, Nat.reduceAdd, and_self]
theorem c_btake198_32 {d : Nat} {σ : zS} {Q : Int32 → zS → Prop} (h : ∀ σ', Fr (fun o _ => decide (198 ≤ o ∧ o ≤ 202)) σ σ' → BCp 198 32 σ σ' → Q 0 σ') : ZC (d + 1) 12 [.ref 198, .ref 32] σ Q := by
  refine k_12_0_i198_32 ?_
  refine h _ ?_ ⟨fun i hi => ?_, rfl, rfl⟩
  · intro o i q
    simp only [decide_eq_false_iff_not] at q
    have n0 : o ≠ 198 := by omega
    have n1 : o ≠ 199 := by omega
    have n2 : o ≠ 200 := by omega
    have n3 : o ≠ 201 := by omega
    have n4 : o ≠ 202 := by omega
    simp only [zup_eq, zput_app, n0, n1, n2, n3, n4, ↓reduceIte]
  · have e : ∀ f g : Nat → Int32, va_cpy f g (Int32.toNatClampNeg 0) (Int32.toNatClampNeg 0) (Int32.toNatClampNeg 60) i = f i := fun f g => (cpy_at f g 60 (by decide) i).trans (if_pos hi)
    simp only [zup_eq, zput_app, Nat.reduceEqDiff, ↓reduceIte, e, Nat.reduceAdd, and_self]
theorem c_btake209_32 {d : Nat} {σ : zS} {Q : Int32 → zS → Prop} (h : ∀ σ', Fr (fun o _ => decide (209 ≤ o ∧ o ≤ 213)) σ σ' → BCp 209 32 σ σ' → Q 0 σ') : ZC (d + 1) 12 [.ref 209, .ref 32] σ Q := by
  refine k_12_0_i209_32 ?_
  refine h _ ?_ ⟨fun i hi => ?_, rfl, rfl⟩
  · intro o i q
    simp only [decide_eq_false_iff_not] at q
    have n0 : o ≠ 209 := by omega
    have n1 : o ≠ 210 := by omega
    have n2 : o ≠ 211 := by omega
    have n3 : o ≠ 212 := by omega
    have n4 : o ≠ 213 := by omega
    simp only [zup_eq, zput_app, n0, n1, n2, n3, n4, ↓reduceIte]
  · have e : ∀ f g : Nat → Int32, va_cpy f g (Int32.toNatClampNeg 0) (Int32.toNatClampNeg 0) (Int32.toNatClampNeg 60) i = f i := fun f g => (cpy_at f g 60 (by decide) i).trans (if_pos hi)
    simp only [zup_eq, zput_app, Nat.reduceEqDiff, ↓reduceIte, e, Nat.reduceAdd, and_self]
theorem c_btake32_45 {d : Nat} {σ : zS} {Q : Int32 → zS → Prop} (h : ∀ σ', Fr (fun o _ => decide (32 ≤ o ∧ o ≤ 36)) σ σ' → BCp 32 45 σ σ' → Q 0 σ') : ZC (d + 1) 12 [.ref 32, .ref 45] σ Q := by
  refine k_12_0_i32_45 ?_
  refine h _ ?_ ⟨fun i hi => ?_, rfl, rfl⟩
  · intro o i q
    simp only [decide_eq_false_iff_not] at q
    have n0 : o ≠ 32 := by omega
    have n1 : o ≠ 33 := by omega
    have n2 : o ≠ 34 := by omega
    have n3 : o ≠ 35 := by omega
    have n4 : o ≠ 36 := by omega
    simp only [zup_eq, zput_app, n0, n1, n2, n3, n4, ↓reduceIte]
  · have e : ∀ f g : Nat → Int32, va_cpy f g (Int32.toNatClampNeg 0) (Int32.toNatClampNeg 0) (Int32.toNatClampNeg 60) i = f i := fun f g => (cpy_at f g 60 (by decide) i).trans (if_pos hi)
    simp only [zup_eq, zput_app, Nat.reduceEqDiff, ↓reduceIte, e, Nat.reduceAdd, and_self]
theorem c_btake32_56 {d : Nat} {σ : zS} {Q : Int32 → zS → Prop} (h : ∀ σ', Fr (fun o _ => decide (32 ≤ o ∧ o ≤ 36)) σ σ' → BCp 32 56 σ σ' → Q 0 σ') : ZC (d + 1) 12 [.ref 32, .ref 56] σ Q := by
  refine k_12_0_i32_56 ?_
  refine h _ ?_ ⟨fun i hi => ?_, rfl, rfl⟩
  · intro o i q
    simp only [decide_eq_false_iff_not] at q
    have n0 : o ≠ 32 := by omega
    have n1 : o ≠ 33 := by omega
    have n2 : o ≠ 34 := by omega
    have n3 : o ≠ 35 := by omega
    have n4 : o ≠ 36 := by omega
    simp only [zup_eq, zput_app, n0, n1, n2, n3, n4, ↓reduceIte]
  · have e : ∀ f g : Nat → Int32, va_cpy f g (Int32.toNatClampNeg 0) (Int32.toNatClampNeg 0) (Int32.toNatClampNeg 60) i = f i := fun f g => (cpy_at f g 60 (by decide) i).trans (if_pos hi)
    simp only [zup_eq, zput_app, Nat.reduceEqDiff, ↓reduceIte, e, Nat.reduceAdd, and_self]
theorem c_btake32_67 {d : Nat} {σ : zS} {Q : Int32 → zS → Prop} (h : ∀ σ', Fr (fun o _ => decide (32 ≤ o ∧ o ≤ 36)) σ σ' → BCp 32 67 σ σ' → Q 0 σ') : ZC (d + 1) 12 [.ref 32, .ref 67] σ Q := by
  refine k_12_0_i32_67 ?_
  refine h _ ?_ ⟨fun i hi => ?_, rfl, rfl⟩
  · intro o i q
    simp only [decide_eq_false_iff_not] at q
    have n0 : o ≠ 32 := by omega
    have n1 : o ≠ 33 := by omega
    have n2 : o ≠ 34 := by omega
    have n3 : o ≠ 35 := by omega
    have n4 : o ≠ 36 := by omega
    simp only [zup_eq, zput_app, n0, n1, n2, n3, n4, ↓reduceIte]
  · have e : ∀ f g : Nat → Int32, va_cpy f g (Int32.toNatClampNeg 0) (Int32.toNatClampNeg 0) (Int32.toNatClampNeg 60) i = f i := fun f g => (cpy_at f g 60 (by decide) i).trans (if_pos hi)
    simp only [zup_eq, zput_app, Nat.reduceEqDiff, ↓reduceIte, e, Nat.reduceAdd, and_self]
theorem c_btake32_78 {d : Nat} {σ : zS} {Q : Int32 → zS → Prop} (h : ∀ σ', Fr (fun o _ => decide (32 ≤ o ∧ o ≤ 36)) σ σ' → BCp 32 78 σ σ' → Q 0 σ') : ZC (d + 1) 12 [.ref 32, .ref 78] σ Q := by
  refine k_12_0_i32_78 ?_
  refine h _ ?_ ⟨fun i hi => ?_, rfl, rfl⟩
  · intro o i q
    simp only [decide_eq_false_iff_not] at q
    have n0 : o ≠ 32 := by omega
    have n1 : o ≠ 33 := by omega
    have n2 : o ≠ 34 := by omega
    have n3 : o ≠ 35 := by omega
    have n4 : o ≠ 36 := by omega
    simp only [zup_eq, zput_app, n0, n1, n2, n3, n4, ↓reduceIte]
  · have e : ∀ f g : Nat → Int32, va_cpy f g (Int32.toNatClampNeg 0) (Int32.toNatClampNeg 0) (Int32.toNatClampNeg 60) i = f i := fun f g => (cpy_at f g 60 (by decide) i).trans (if_pos hi)
    simp only [zup_eq, zput_app, Nat.reduceEqDiff, ↓reduceIte, e, Nat.reduceAdd, and_self]
theorem c_btake32_89 {d : Nat} {σ : zS} {Q : Int32 → zS → Prop} (h : ∀ σ', Fr (fun o _ => decide (32 ≤ o ∧ o ≤ 36)) σ σ' → BCp 32 89 σ σ' → Q 0 σ') : ZC (d + 1) 12 [.ref 32, .ref 89] σ Q := by
  refine k_12_0_i32_89 ?_
  refine h _ ?_ ⟨fun i hi => ?_, rfl, rfl⟩
  · intro o i q
    simp only [decide_eq_false_iff_not] at q
    have n0 : o ≠ 32 := by omega
    have n1 : o ≠ 33 := by omega
    have n2 : o ≠ 34 := by omega
    have n3 : o ≠ 35 := by omega
    have n4 : o ≠ 36 := by omega
    simp only [zup_eq, zput_app, n0, n1, n2, n3, n4, ↓reduceIte]
  · have e : ∀ f g : Nat → Int32, va_cpy f g (Int32.toNatClampNeg 0) (Int32.toNatClampNeg 0) (Int32.toNatClampNeg 60) i = f i := fun f g => (cpy_at f g 60 (by decide) i).trans (if_pos hi)
    simp only [zup_eq, zput_app, Nat.reduceEqDiff, ↓reduceIte, e, Nat.reduceAdd, and_self]
theorem c_btake32_100 {d : Nat} {σ : zS} {Q : Int32 → zS → Prop} (h : ∀ σ', Fr (fun o _ => decide (32 ≤ o ∧ o ≤ 36)) σ σ' → BCp 32 100 σ σ' → Q 0 σ') : ZC (d + 1) 12 [.ref 32, .ref 100] σ Q := by
  refine k_12_0_i32_100 ?_
  refine h _ ?_ ⟨fun i hi => ?_, rfl, rfl⟩
  · intro o i q
    simp only [decide_eq_false_iff_not] at q
    have n0 : o ≠ 32 := by omega
    have n1 : o ≠ 33 := by omega
    have n2 : o ≠ 34 := by omega
    have n3 : o ≠ 35 := by omega
    have n4 : o ≠ 36 := by omega
    simp only [zup_eq, zput_app, n0, n1, n2, n3, n4, ↓reduceIte]
  · have e : ∀ f g : Nat → Int32, va_cpy f g (Int32.toNatClampNeg 0) (Int32.toNatClampNeg 0) (Int32.toNatClampNeg 60) i = f i := fun f g => (cpy_at f g 60 (by decide) i).trans (if_pos hi)
    simp only [zup_eq, zput_app, Nat.reduceEqDiff, ↓reduceIte, e, Nat.reduceAdd, and_self]
theorem c_btake32_111 {d : Nat} {σ : zS} {Q : Int32 → zS → Prop} (h : ∀ σ', Fr (fun o _ => decide (32 ≤ o ∧ o ≤ 36)) σ σ' → BCp 32 111 σ σ' → Q 0 σ') : ZC (d + 1) 12 [.ref 32, .ref 111] σ Q := by
  refine k_12_0_i32_111 ?_
  refine h _ ?_ ⟨fun i hi => ?_, rfl, rfl⟩
  · intro o i q
    simp only [decide_eq_false_iff_not] at q
    have n0 : o ≠ 32 := by omega
    have n1 : o ≠ 33 := by omega
    have n2 : o ≠ 34 := by omega
    have n3 : o ≠ 35 := by omega
    have n4 : o ≠ 36 := by omega
    simp only [zup_eq, zput_app, n0, n1, n2, n3, n4, ↓reduceIte]
  · have e : ∀ f g : Nat → Int32, va_cpy f g (Int32.toNatClampNeg 0) (Int32.toNatClampNeg 0) (Int32.toNatClampNeg 60) i = f i := fun f g => (cpy_at f g 60 (by decide) i).trans (if_pos hi)
    simp only [zup_eq, zput_app, Nat.reduceEqDiff, ↓reduceIte, e, Nat.reduceAdd, and_self]
theorem c_btake32_122 {d : Nat} {σ : zS} {Q : Int32 → zS → Prop} (h : ∀ σ', Fr (fun o _ => decide (32 ≤ o ∧ o ≤ 36)) σ σ' → BCp 32 122 σ σ' → Q 0 σ') : ZC (d + 1) 12 [.ref 32, .ref 122] σ Q := by
  refine k_12_0_i32_122 ?_
  refine h _ ?_ ⟨fun i hi => ?_, rfl, rfl⟩
  · intro o i q
    simp only [decide_eq_false_iff_not] at q
    have n0 : o ≠ 32 := by omega
    have n1 : o ≠ 33 := by omega
    have n2 : o ≠ 34 := by omega
    have n3 : o ≠ 35 := by omega
    have n4 : o ≠ 36 := by omega
    simp only [zup_eq, zput_app, n0, n1, n2, n3, n4, ↓reduceIte]
  · have e : ∀ f g : Nat → Int32, va_cpy f g (Int32.toNatClampNeg 0) (Int32.toNatClampNeg 0) (Int32.toNatClampNeg 60) i = f i := fun f g => (cpy_at f g 60 (by decide) i).trans (if_pos hi)
    simp only [zup_eq, zput_app, Nat.reduceEqDiff, ↓reduceIte, e, Nat.reduceAdd, and_self]
theorem c_btake32_133 {d : Nat} {σ : zS} {Q : Int32 → zS → Prop} (h : ∀ σ', Fr (fun o _ => decide (32 ≤ o ∧ o ≤ 36)) σ σ' → BCp 32 133 σ σ' → Q 0 σ') : ZC (d + 1) 12 [.ref 32, .ref 133] σ Q := by
  refine k_12_0_i32_133 ?_
  refine h _ ?_ ⟨fun i hi => ?_, rfl, rfl⟩
  · intro o i q
    simp only [decide_eq_false_iff_not] at q
    have n0 : o ≠ 32 := by omega
    have n1 : o ≠ 33 := by omega
    have n2 : o ≠ 34 := by omega
    have n3 : o ≠ 35 := by omega
    have n4 : o ≠ 36 := by omega
    simp only [zup_eq, zput_app, n0, n1, n2, n3, n4, ↓reduceIte]
  · have e : ∀ f g : Nat → Int32, va_cpy f g (Int32.toNatClampNeg 0) (Int32.toNatClampNeg 0) (Int32.toNatClampNeg 60) i = f i := fun f g => (cpy_at f g 60 (by decide) i).trans (if_pos hi)
    simp only [zup_eq, zput_app, Nat.reduceEqDiff, ↓reduceIte, e, Nat.reduceAdd, and_self]
theorem c_btake32_144 {d : Nat} {σ : zS} {Q : Int32 → zS → Prop} (h : ∀ σ', Fr (fun o _ => decide (32 ≤ o ∧ o ≤ 36)) σ σ' → BCp 32 144 σ σ' → Q 0 σ') : ZC (d + 1) 12 [.ref 32, .ref 144] σ Q := by
  refine k_12_0_i32_144 ?_
  refine h _ ?_ ⟨fun i hi => ?_, rfl, rfl⟩
  · intro o i q
    simp only [decide_eq_false_iff_not] at q
    have n0 : o ≠ 32 := by omega
    have n1 : o ≠ 33 := by omega
    have n2 : o ≠ 34 := by omega
    have n3 : o ≠ 35 := by omega
    have n4 : o ≠ 36 := by omega
    simp only [zup_eq, zput_app, n0, n1, n2, n3, n4, ↓reduceIte]
  · have e : ∀ f g : Nat → Int32, va_cpy f g (Int32.toNatClampNeg 0) (Int32.toNatClampNeg 0) (Int32.toNatClampNeg 60) i = f i := fun f g => (cpy_at f g 60 (by decide) i).trans (if_pos hi)
    simp only [zup_eq, zput_app, Nat.reduceEqDiff, ↓reduceIte, e, Nat.reduceAdd, and_self]
theorem c_btake32_155 {d : Nat} {σ : zS} {Q : Int32 → zS → Prop} (h : ∀ σ', Fr (fun o _ => decide (32 ≤ o ∧ o ≤ 36)) σ σ' → BCp 32 155 σ σ' → Q 0 σ') : ZC (d + 1) 12 [.ref 32, .ref 155] σ Q := by
  refine k_12_0_i32_155 ?_
  refine h _ ?_ ⟨fun i hi => ?_, rfl, rfl⟩
  · intro o i q
    simp only [decide_eq_false_iff_not] at q
    have n0 : o ≠ 32 := by omega
    have n1 : o ≠ 33 := by omega
    have n2 : o ≠ 34 := by omega
    have n3 : o ≠ 35 := by omega
    have n4 : o ≠ 36 := by omega
    simp only [zup_eq, zput_app, n0, n1, n2, n3, n4, ↓reduceIte]
  · have e : ∀ f g : Nat → Int32, va_cpy f g (Int32.toNatClampNeg 0) (Int32.toNatClampNeg 0) (Int32.toNatClampNeg 60) i = f i := fun f g => (cpy_at f g 60 (by decide) i).trans (if_pos hi)
    simp only [zup_eq, zput_app, Nat.reduceEqDiff, ↓reduceIte, e, Nat.reduceAdd, and_self]
theorem c_btake32_166 {d : Nat} {σ : zS} {Q : Int32 → zS → Prop} (h : ∀ σ', Fr (fun o _ => decide (32 ≤ o ∧ o ≤ 36)) σ σ' → BCp 32 166 σ σ' → Q 0 σ') : ZC (d + 1) 12 [.ref 32, .ref 166] σ Q := by
  refine k_12_0_i32_166 ?_
  refine h _ ?_ ⟨fun i hi => ?_, rfl, rfl⟩
  · intro o i q
    simp only [decide_eq_false_iff_not] at q
    have n0 : o ≠ 32 := by omega
    have n1 : o ≠ 33 := by omega
    have n2 : o ≠ 34 := by omega
    have n3 : o ≠ 35 := by omega
    have n4 : o ≠ 36 := by omega
    simp only [zup_eq, zput_app, n0, n1, n2, n3, n4, ↓reduceIte]
  · have e : ∀ f g : Nat → Int32, va_cpy f g (Int32.toNatClampNeg 0) (Int32.toNatClampNeg 0) (Int32.toNatClampNeg 60) i = f i := fun f g => (cpy_at f g 60 (by decide) i).trans (if_pos hi)
    simp only [zup_eq, zput_app, Nat.reduceEqDiff, ↓reduceIte, e, Nat.reduceAdd, and_self]
theorem c_btake32_177 {d : Nat} {σ : zS} {Q : Int32 → zS → Prop} (h : ∀ σ', Fr (fun o _ => decide (32 ≤ o ∧ o ≤ 36)) σ σ' → BCp 32 177 σ σ' → Q 0 σ') : ZC (d + 1) 12 [.ref 32, .ref 177] σ Q := by
  refine k_12_0_i32_177 ?_
  refine h _ ?_ ⟨fun i hi => ?_, rfl, rfl⟩
  · intro o i q
    simp only [decide_eq_false_iff_not] at q
    have n0 : o ≠ 32 := by omega
    have n1 : o ≠ 33 := by omega
    have n2 : o ≠ 34 := by omega
    have n3 : o ≠ 35 := by omega
    have n4 : o ≠ 36 := by omega
    simp only [zup_eq, zput_app, n0, n1, n2, n3, n4, ↓reduceIte]
  · have e : ∀ f g : Nat → Int32, va_cpy f g (Int32.toNatClampNeg 0) (Int32.toNatClampNeg 0) (Int32.toNatClampNeg 60) i = f i := fun f g => (cpy_at f g 60 (by decide) i).trans (if_pos hi)
    simp only [zup_eq, zput_app, Nat.reduceEqDiff, ↓reduceIte, e, Nat.reduceAdd, and_self]
theorem c_btake32_198 {d : Nat} {σ : zS} {Q : Int32 → zS → Prop} (h : ∀ σ', Fr (fun o _ => decide (32 ≤ o ∧ o ≤ 36)) σ σ' → BCp 32 198 σ σ' → Q 0 σ') : ZC (d + 1) 12 [.ref 32, .ref 198] σ Q := by
  refine k_12_0_i32_198 ?_
  refine h _ ?_ ⟨fun i hi => ?_, rfl, rfl⟩
  · intro o i q
    simp only [decide_eq_false_iff_not] at q
    have n0 : o ≠ 32 := by omega
    have n1 : o ≠ 33 := by omega
    have n2 : o ≠ 34 := by omega
    have n3 : o ≠ 35 := by omega
    have n4 : o ≠ 36 := by omega
    simp only [zup_eq, zput_app, n0, n1, n2, n3, n4, ↓reduceIte]
  · have e : ∀ f g : Nat → Int32, va_cpy f g (Int32.toNatClampNeg 0) (Int32.toNatClampNeg 0) (Int32.toNatClampNeg 60) i = f i := fun f g => (cpy_at f g 60 (by decide) i).trans (if_pos hi)
    simp only [zup_eq, zput_app, Nat.reduceEqDiff, ↓reduceIte, e, Nat.reduceAdd, and_self]
theorem c_btake32_209 {d : Nat} {σ : zS} {Q : Int32 → zS → Prop} (h : ∀ σ', Fr (fun o _ => decide (32 ≤ o ∧ o ≤ 36)) σ σ' → BCp 32 209 σ σ' → Q 0 σ') : ZC (d + 1) 12 [.ref 32, .ref 209] σ Q := by
  refine k_12_0_i32_209 ?_
  refine h _ ?_ ⟨fun i hi => ?_, rfl, rfl⟩
  · intro o i q
    simp only [decide_eq_false_iff_not] at q
    have n0 : o ≠ 32 := by omega
    have n1 : o ≠ 33 := by omega
    have n2 : o ≠ 34 := by omega
    have n3 : o ≠ 35 := by omega
    have n4 : o ≠ 36 := by omega
    simp only [zup_eq, zput_app, n0, n1, n2, n3, n4, ↓reduceIte]
  · have e : ∀ f g : Nat → Int32, va_cpy f g (Int32.toNatClampNeg 0) (Int32.toNatClampNeg 0) (Int32.toNatClampNeg 60) i = f i := fun f g => (cpy_at f g 60 (by decide) i).trans (if_pos hi)
    simp only [zup_eq, zput_app, Nat.reduceEqDiff, ↓reduceIte, e, Nat.reduceAdd, and_self]
/-- the wall, laid aside -/
theorem c_take {d : Nat} {σ : zS} {Q : Int32 → zS → Prop} (h : ∀ σ', Fr (fun o _ => decide (23 ≤ o ∧ o ≤ 30)) σ σ' → MCp 26 17 σ σ' → σ' 23 3 = σ 14 3 → (∀ i, i < 9 → σ' 24 i = σ 15 i ∧ σ' 25 i = σ 16 i) → Q 0 σ') : ZC (d + 2) 71 [.ref 23, .ref 14] σ Q := by
  refine k_71_0 ?_
  generalize hσ1 : zput (zput σ 24 (va_cpy (σ 15) (σ 24) (Int32.toNatClampNeg 0) (Int32.toNatClampNeg 0) (Int32.toNatClampNeg 9))) 25 _ = σ1
  have e : ∀ (f g : Nat → Int32) i, i < 9 → va_cpy f g (Int32.toNatClampNeg 0) (Int32.toNatClampNeg 0) (Int32.toNatClampNeg 9) i = f i := fun f g i hi => (cpy_at f g 9 (by decide) i).trans (if_pos hi)
  have o1 : ∀ o, o ≠ 24 → o ≠ 25 → σ1 o = σ o := fun o h1 h2 => by
    rw [← hσ1]; simp only [zput_app, h1, h2, ↓reduceIte]
  have e24 : ∀ i, i < 9 → σ1 24 i = σ 15 i := fun i hi => by
    rw [← hσ1]; simp only [zput_app, Nat.reduceEqDiff, ↓reduceIte, e _ _ i hi]
  have e25 : ∀ i, i < 9 → σ1 25 i = σ 16 i := fun i hi => by
    rw [← hσ1]; simp only [zput_app, Nat.reduceEqDiff, ↓reduceIte, e _ _ i hi]
  refine c_mtake26_17 (fun σ2 f2 m2 => ?_)
  have g2 : ∀ o, ¬ (26 ≤ o ∧ o ≤ 30) → σ2 o = σ1 o := fun o ho => funext fun i => f2 o i (decide_eq_false ho)
  refine h _ ?_ ?_ ?_ ?_
  · intro o i q
    simp only [decide_eq_false_iff_not] at q
    have n : o ≠ 23 := by omega
    simp only [zup_eq, zput_app, n, ↓reduceIte]
    rw [g2 o (by omega), o1 o (by omega) (by omega)]
  · obtain ⟨m3, m4, m5, m6⟩ := m2
    refine ⟨fun i hi => ?_, ?_, ?_, ?_⟩
    · obtain ⟨a1, a2, a3, a4⟩ := m3 i hi
      simp only [zup_eq, zput_app, Nat.reduceEqDiff, Nat.reduceAdd, ↓reduceIte] at a1 a2 a3 a4 ⊢
      rw [a1, a2, a3, a4, o1 18 (by decide) (by decide), o1 19 (by decide) (by decide), o1 20 (by decide) (by decide), o1 21 (by decide) (by decide)]
      exact ⟨rfl, rfl, rfl, rfl⟩
    · simp only [zup_eq, zput_app, Nat.reduceEqDiff, ↓reduceIte]; rw [m4, o1 17 (by decide) (by decide)]
    · simp only [zup_eq, zput_app, Nat.reduceEqDiff, ↓reduceIte]; rw [m5, o1 17 (by decide) (by decide)]
    · simp only [zup_eq, zput_app, Nat.reduceEqDiff, ↓reduceIte]; rw [m6, o1 17 (by decide) (by decide)]
  · simp only [zup_eq, zput_app, ↓reduceIte, upd_eq]
    rw [g2 14 (by decide), o1 14 (by decide) (by decide)]
  · intro i hi
    simp only [zup_eq, zput_app, Nat.reduceEqDiff, ↓reduceIte]
    rw [g2 24 (by decide), g2 25 (by decide)]
    exact ⟨e24 i hi, e25 i hi⟩
/-- what lies at k of a row, laid from another -/
def ly (f g : Nat → Int32) (x k : Nat) : Nat → Int32 := fun i => if x ≤ i ∧ i < x + k then f (i - x) else g i
theorem ly_0 (f g : Nat → Int32) (x : Nat) : ly f g x 0 = g := funext fun i => if_neg (by omega)
theorem ly_1 (f g : Nat → Int32) (x k : Nat) : ly f g x (k + 1) = upd (ly f g x k) (x + k) (f k) := by
  funext i
  simp only [ly, upd]
  by_cases h : i = x + k
  · subst h; rw [if_pos (by omega), if_pos rfl, Nat.add_sub_cancel_left]
  · rw [if_neg h]
    by_cases h2 : x ≤ i ∧ i < x + k
    · rw [if_pos (by omega), if_pos h2]
    · rw [if_neg (by omega), if_neg h2]
theorem r_lay215_223 {d : Nat} {σ : zS} {x : Nat} (hx : x + 288 ≤ 3456) (Q : Int32 → zS → Prop) : ZC (d + 1) 208 [.ref 215, .ref 223, .int (nI x)] σ Q = Q 0 (zput σ 223 (ly (σ 215) (σ 223) x 288)) := by
  refine s_of (fun Q h => k_208_0_i215_223 ?_) Q
  have hz := z_for (F := 288) (P := fun k => Z d 208 Q 2 [.ref 215, .ref 223, .int (nI x), .int (nI k)] [] (zput σ 223 (ly (σ 215) (σ 223) x k))) (fun k hk ih => ?_) ?_
  · rw [ly_0, zput_self] at hz
    exact hz
  · refine k_208_2_i215_223 ?_
    rw [ly_1] at ih
    simp (disch := omega) only [zup_eq, zput_app, zput_twice, upd_same, nI_1, za2, zA2, zm2, za3, zA3, zm3, za4, zA4, zm4, za9, zA9, zm9, za10, zA10, zm10, za18, zA18, zm18, za27, zA27, zm27, za36, zA36, zm36, za48, zA48, zm48, za288, zA288, zm288, zcl, zinT, upd_ne, upd_eq, zlt, znlt, zl2, zn2_, zl3, zn3_, zl5, zn5_, zl9, zn9_, zl10, zn10_, zl16, zn16_, zl20, zn20_, zl40, zn40_, zl60, zn60_, zl76, zn76_, zl80, zn80_, zl288, zn288_, zl300, zn300_, zneg, Nat.reduceEqDiff, Nat.reduceAdd, ↓reduceIte, nI_add]
    exact ih
  · refine k_208_2_i215_223 ?_
    rw [if_neg (by decide)]
    exact h
theorem r_lay215_224 {d : Nat} {σ : zS} {x : Nat} (hx : x + 288 ≤ 288) (Q : Int32 → zS → Prop) : ZC (d + 1) 208 [.ref 215, .ref 224, .int (nI x)] σ Q = Q 0 (zput σ 224 (ly (σ 215) (σ 224) x 288)) := by
  refine s_of (fun Q h => k_208_0_i215_224 ?_) Q
  have hz := z_for (F := 288) (P := fun k => Z d 208 Q 2 [.ref 215, .ref 224, .int (nI x), .int (nI k)] [] (zput σ 224 (ly (σ 215) (σ 224) x k))) (fun k hk ih => ?_) ?_
  · rw [ly_0, zput_self] at hz
    exact hz
  · refine k_208_2_i215_224 ?_
    rw [ly_1] at ih
    simp (disch := omega) only [zup_eq, zput_app, zput_twice, upd_same, nI_1, za2, zA2, zm2, za3, zA3, zm3, za4, zA4, zm4, za9, zA9, zm9, za10, zA10, zm10, za18, zA18, zm18, za27, zA27, zm27, za36, zA36, zm36, za48, zA48, zm48, za288, zA288, zm288, zcl, zinT, upd_ne, upd_eq, zlt, znlt, zl2, zn2_, zl3, zn3_, zl5, zn5_, zl9, zn9_, zl10, zn10_, zl16, zn16_, zl20, zn20_, zl40, zn40_, zl60, zn60_, zl76, zn76_, zl80, zn80_, zl288, zn288_, zl300, zn300_, zneg, Nat.reduceEqDiff, Nat.reduceAdd, ↓reduceIte, nI_add]
    exact ih
  · refine k_208_2_i215_224 ?_
    rw [if_neg (by decide)]
    exact h
theorem r_lay215_226 {d : Nat} {σ : zS} {x : Nat} (hx : x + 288 ≤ 288) (Q : Int32 → zS → Prop) : ZC (d + 1) 208 [.ref 215, .ref 226, .int (nI x)] σ Q = Q 0 (zput σ 226 (ly (σ 215) (σ 226) x 288)) := by
  refine s_of (fun Q h => k_208_0_i215_226 ?_) Q
  have hz := z_for (F := 288) (P := fun k => Z d 208 Q 2 [.ref 215, .ref 226, .int (nI x), .int (nI k)] [] (zput σ 226 (ly (σ 215) (σ 226) x k))) (fun k hk ih => ?_) ?_
  · rw [ly_0, zput_self] at hz
    exact hz
  · refine k_208_2_i215_226 ?_
    rw [ly_1] at ih
    simp (disch := omega) only [zup_eq, zput_app, zput_twice, upd_same, nI_1, za2, zA2, zm2, za3, zA3, zm3, za4, zA4, zm4, za9, zA9, zm9, za10, zA10, zm10, za18, zA18, zm18, za27, zA27, zm27, za36, zA36, zm36, za48, zA48, zm48, za288, zA288, zm288, zcl, zinT, upd_ne, upd_eq, zlt, znlt, zl2, zn2_, zl3, zn3_, zl5, zn5_, zl9, zn9_, zl10, zn10_, zl16, zn16_, zl20, zn20_, zl40, zn40_, zl60, zn60_, zl76, zn76_, zl80, zn80_, zl288, zn288_, zl300, zn300_, zneg, Nat.reduceEqDiff, Nat.reduceAdd, ↓reduceIte, nI_add]
    exact ih
  · refine k_208_2_i215_226 ?_
    rw [if_neg (by decide)]
    exact h
theorem r_lay215_234 {d : Nat} {σ : zS} {x : Nat} (hx : x + 288 ≤ 576) (Q : Int32 → zS → Prop) : ZC (d + 1) 208 [.ref 215, .ref 234, .int (nI x)] σ Q = Q 0 (zput σ 234 (ly (σ 215) (σ 234) x 288)) := by
  refine s_of (fun Q h => k_208_0_i215_234 ?_) Q
  have hz := z_for (F := 288) (P := fun k => Z d 208 Q 2 [.ref 215, .ref 234, .int (nI x), .int (nI k)] [] (zput σ 234 (ly (σ 215) (σ 234) x k))) (fun k hk ih => ?_) ?_
  · rw [ly_0, zput_self] at hz
    exact hz
  · refine k_208_2_i215_234 ?_
    rw [ly_1] at ih
    simp (disch := omega) only [zup_eq, zput_app, zput_twice, upd_same, nI_1, za2, zA2, zm2, za3, zA3, zm3, za4, zA4, zm4, za9, zA9, zm9, za10, zA10, zm10, za18, zA18, zm18, za27, zA27, zm27, za36, zA36, zm36, za48, zA48, zm48, za288, zA288, zm288, zcl, zinT, upd_ne, upd_eq, zlt, znlt, zl2, zn2_, zl3, zn3_, zl5, zn5_, zl9, zn9_, zl10, zn10_, zl16, zn16_, zl20, zn20_, zl40, zn40_, zl60, zn60_, zl76, zn76_, zl80, zn80_, zl288, zn288_, zl300, zn300_, zneg, Nat.reduceEqDiff, Nat.reduceAdd, ↓reduceIte, nI_add]
    exact ih
  · refine k_208_2_i215_234 ?_
    rw [if_neg (by decide)]
    exact h
theorem r_lay224_223 {d : Nat} {σ : zS} {x : Nat} (hx : x + 288 ≤ 3456) (Q : Int32 → zS → Prop) : ZC (d + 1) 208 [.ref 224, .ref 223, .int (nI x)] σ Q = Q 0 (zput σ 223 (ly (σ 224) (σ 223) x 288)) := by
  refine s_of (fun Q h => k_208_0_i224_223 ?_) Q
  have hz := z_for (F := 288) (P := fun k => Z d 208 Q 2 [.ref 224, .ref 223, .int (nI x), .int (nI k)] [] (zput σ 223 (ly (σ 224) (σ 223) x k))) (fun k hk ih => ?_) ?_
  · rw [ly_0, zput_self] at hz
    exact hz
  · refine k_208_2_i224_223 ?_
    rw [ly_1] at ih
    simp (disch := omega) only [zup_eq, zput_app, zput_twice, upd_same, nI_1, za2, zA2, zm2, za3, zA3, zm3, za4, zA4, zm4, za9, zA9, zm9, za10, zA10, zm10, za18, zA18, zm18, za27, zA27, zm27, za36, zA36, zm36, za48, zA48, zm48, za288, zA288, zm288, zcl, zinT, upd_ne, upd_eq, zlt, znlt, zl2, zn2_, zl3, zn3_, zl5, zn5_, zl9, zn9_, zl10, zn10_, zl16, zn16_, zl20, zn20_, zl40, zn40_, zl60, zn60_, zl76, zn76_, zl80, zn80_, zl288, zn288_, zl300, zn300_, zneg, Nat.reduceEqDiff, Nat.reduceAdd, ↓reduceIte, nI_add]
    exact ih
  · refine k_208_2_i224_223 ?_
    rw [if_neg (by decide)]
    exact h
theorem r_beginThen {d : Nat} {σ : zS} {Q : Int32 → zS → Prop} (h : ∀ g : Nat → Int32, (∀ i, i < 288 → g i = σ 215 i) → Q 0 (zput σ 226 g)) : ZC (d + 2) 227 [.ref 214] σ Q := by
  refine k_227_0 ?_
  rw [show (Value.int 0) = .int (nI 0) from rfl, r_lay215_226 (by decide)]
  refine h _ (fun i hi => ?_)
  unfold ly
  rw [if_pos (by omega), Nat.sub_zero]
