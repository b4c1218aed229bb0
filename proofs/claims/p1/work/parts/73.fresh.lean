/-! the start -/
theorem gv_Rf0 : gv_Rf gv_u := fun _ _ _ => rfl
theorem gv_Wk0 : gv_Wk gv_u 0 0 := by
  refine ⟨by omega, by omega, by decide +kernel, by decide +kernel, by decide +kernel, by decide +kernel, fun g hg => absurd hg (Nat.not_lt_zero _), fun j hj => absurd hj (Nat.not_lt_zero _), by decide +kernel, by decide +kernel, by decide +kernel⟩
theorem gv_Dl0 : gv_Dl gv_u 0 := by
  unfold gv_Dl
  decide +kernel
