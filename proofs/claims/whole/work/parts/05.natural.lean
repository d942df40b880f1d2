/-! a step says the same in any answer type -/
section ZNAT
variable {ρ1 ρ2 : Type} (r : ρ1 → ρ2 → Prop) {bad1 : ρ1} {bad2 : ρ2} {K1 : Nat → List Value → List Value → Nat → zS → ρ1} {K2 : Nat → List Value → List Value → Nat → zS → ρ2} {R1 : Int32 → Nat → zS → ρ1} {R2 : Int32 → Nat → zS → ρ2} {C1 : Nat → List Value → Nat → zS → (Int32 → Nat → zS → ρ1) → ρ1} {C2 : Nat → List Value → Nat → zS → (Int32 → Nat → zS → ρ2) → ρ2}
theorem zStep_rel (hbad : r bad1 bad2) (hK : ∀ pc ls st n σ, r (K1 pc ls st n σ) (K2 pc ls st n σ)) (hR : ∀ v n σ, r (R1 v n σ) (R2 v n σ)) (hC : ∀ mi as n σ k1 k2, (∀ v n' σ', r (k1 v n' σ') (k2 v n' σ')) → r (C1 mi as n σ k1) (C2 mi as n σ k2)) (zk : zKd) (al : Bool) (e : zE) (ls st : List Value) (n : Nat) (σ : zS) : r (zStep bad1 K1 R1 C1 zk al e ls st n σ) (zStep bad2 K2 R2 C2 zk al e ls st n σ) := by
  obtain ⟨pc, ins, nx, a, b, d, f, c, sw⟩ := e
  have hgo : ∀ ls st, r (zGo bad1 K1 C1 a b f nx ls st n σ) (zGo bad2 K2 C2 a b f nx ls st n σ) := by
    intro ls st
    unfold zGo
    split
    · exact hC _ _ _ _ _ _ (fun v n' σ' => hK _ _ _ _ _)
    · exact hbad
  have hsw : ∀ ls st x sw, r (zSwc K1 a ls st n σ x sw) (zSwc K2 a ls st n σ x sw) := by
    intro ls st x sw
    induction sw with
    | nil => exact hK _ _ _ _ _
    | cons q t ih =>
      obtain ⟨v, t'⟩ := q
      unfold zSwc
      split
      · exact hK _ _ _ _ _
      · exact ih
  have hcd : ∀ c x y t1 t2 f1 f2, r t1 t2 → r f1 f2 → r (zCnd c x y t1 f1) (zCnd c x y t2 f2) := by
    intro c x y t1 t2 f1 f2 h1 h2
    unfold zCnd
    split <;> split <;> first | exact h1 | exact h2
  cases ins
  all_goals first
    | exact hbad
    | exact hK _ _ _ _ _
    | (simp only [zStep]; split <;> first | exact hbad | exact hK _ _ _ _ _ | skip
       all_goals first
         | done
         | exact hgo _ _
         | (unfold zCopy; repeat' split
            all_goals first | exact hbad | exact hK _ _ _ _ _)
         | (unfold zObj; repeat' split
            all_goals first | exact hbad | exact hK _ _ _ _ _)
         | (unfold zNew; repeat' split
            all_goals first | exact hbad | exact hK _ _ _ _ _)
         | (split
            · exact hbad
            · unfold zSpec
              repeat' split
              all_goals first | exact hbad | exact hgo _ _)
         | (unfold zSpec; repeat' split
            all_goals first | exact hbad | exact hgo _ _))
    | (simp only [zStep, zBin, zDiv, zUn, zIld, zAld, zIst, zAst, zInc, zNul, zDup, zPop, zDup2, zDupX, zGet, zAld1, zAst1, zAst2, zAldq, zAstq, zLen, zRet, zRetv, zNewa]
       repeat' split
       all_goals first | exact hbad | exact hK _ _ _ _ _ | exact hR _ _ _)
    | (simp only [zStep, zIf, zIf2]
       split
       · exact hcd _ _ _ _ _ _ _ (hK _ _ _ _ _) (hK _ _ _ _ _)
       · exact hbad)
    | (simp only [zStep, zSw]
       split
       · exact hsw _ _ _ _
       · exact hbad)
    | (simp only [zStep, zVirt]
       repeat' split
       all_goals first | exact hbad | exact hgo _ _)
    | (simp only [zStep, zPut, zPutI]
       repeat' split
       all_goals first | exact hbad | exact hK _ _ _ _ _)
end ZNAT
