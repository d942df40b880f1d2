/-! the words of a throw -/
theorem ns_in : ∀ w ∈ (nsAt "StartedByAYawn" 152).filter goodWord, w ∈ tables_1 := by decide +kernel
theorem ns_ot : ∀ w ∈ Cond.classLink "StartedByAYawn" 148 nsE :: Cond.initialized nsE :: nsAt "StartedByAYawn" 152, vx_ot w = true := by decide +kernel
