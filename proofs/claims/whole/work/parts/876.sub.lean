theorem gv_r28_0 : gv_u.2.2 28 0 = 30 := by decide +kernel
theorem gv_r30_0 : gv_u.2.2 30 0 = 32 := by decide +kernel
theorem gv_r32_0 : gv_u.2.2 32 0 = 34 := by decide +kernel
theorem gv_r34_0 : gv_u.2.2 34 0 = 36 := by decide +kernel
theorem gv_r41_0 : gv_u.2.2 41 0 = 43 := by decide +kernel
theorem gv_r43_0 : gv_u.2.2 43 0 = 45 := by decide +kernel
theorem gv_r22_6 : gv_u.2.2 22 6 = 29 := by decide +kernel
theorem gv_r22_7 : gv_u.2.2 22 7 = 31 := by decide +kernel
theorem gv_r22_8 : gv_u.2.2 22 8 = 33 := by decide +kernel
theorem gv_r22_9 : gv_u.2.2 22 9 = 35 := by decide +kernel
theorem gv_l29 : gv_z.2.2 29 = 48 := by decide +kernel
theorem gv_l31 : gv_z.2.2 31 = 48 := by decide +kernel
theorem gv_l33 : gv_z.2.2 33 = 48 := by decide +kernel
theorem gv_l35 : gv_z.2.2 35 = 48 := by decide +kernel
theorem gv_l42 : gv_z.2.2 42 = 48 := by decide +kernel
theorem gv_l44 : gv_z.2.2 44 = 48 := by decide +kernel
/-- the sum less a number times the factor -/
theorem eq_sub {F : Nat} (hF : 2000 ≤ F) {u : gw_St} {p : Nat} {X y V : Int} (hr : gv_Rf u) (hp : p = 28 ∨ p = 41 ∨ p = 43) (hX : Wh u p (p + 1) X) (hy : Wh u 30 31 y) (hV : Wh u 34 35 V) (bX : X.natAbs < 2147483648 ^ 22) (by' : y.natAbs < 2147483648 ^ 1) (bV : V.natAbs < 2147483648 ^ 23) : ∃ w1 w2, gf_Whole_setProduct F gv_z u 32 p 30 = some w1 ∧ gf_Whole_setDifference F gv_z w1 34 34 32 = some w2 ∧ Wp (fun a => 32 ≤ a ∧ a ≤ 35) u w2 ∧ Wp (fun a => 32 ≤ a ∧ a ≤ 35) u w1 ∧ Wh w2 34 35 (V - X * y) := by
  obtain ⟨nx, hX⟩ := hX
  obtain ⟨ny, hy⟩ := hy
  have mx := hX.most bX
  have my := hy.most by'
  have hrp : u.2.2 p 0 = p + 1 + 1 ∧ 47 < gv_z.2.2 (p + 1) := by
    rcases hp with e | e | e <;> subst e
    · exact ⟨hr.get rfl gv_r28_0, by rw [gv_l29]; omega⟩
    · exact ⟨hr.get rfl gv_r41_0, by rw [gv_l42]; omega⟩
    · exact ⟨hr.get rfl gv_r43_0, by rw [gv_l44]; omega⟩
  obtain ⟨w1, a1, a2, a3⟩ := gw_product (F := F) hF (z := gv_z) (p := 32) (q := 33) (p1 := p) (q1 := p + 1) (p2 := 30) (q2 := 31) (u := u) (by omega) (by omega) (by omega) (by omega) (by omega) (by omega) (by omega) (by omega) (by omega) (hr.get rfl gv_r32_0) hrp.1 (hr.get rfl gv_r30_0) hX hy (by omega) (by rw [gv_l31]; omega) (by rw [gv_l33]; omega) (by rw [gv_l33]; omega)
  have f1 : Wp (fun a => 32 ≤ a ∧ a ≤ 35) u w1 := a2.wp ⟨by omega, by omega⟩ ⟨by omega, by omega⟩
  have g1 : Wp (fun a => 32 ≤ a ∧ a ≤ 33) u w1 := a2.wp ⟨by omega, by omega⟩ ⟨by omega, by omega⟩
  have r1 := hr.wp f1
  obtain ⟨nv, hV⟩ := hV.wp g1 (by omega) (by omega)
  obtain ⟨np, hP⟩ := a3
  have mv := hV.most bV
  have bP : (X * y).natAbs < 2147483648 ^ 23 := by
    rw [Int.natAbs_mul, show (23 : Nat) = 22 + 1 from rfl, Nat.pow_add]
    exact Nat.mul_lt_mul_of_lt_of_le bX (Nat.le_of_lt by') (Nat.pow_pos (by decide))
  have mp := hP.most bP
  obtain ⟨w2, b1, b2, b3⟩ := gw_difference (F := F) hF (z := gv_z) (p := 34) (q := 35) (p1 := 34) (q1 := 35) (p2 := 32) (q2 := 33) (u := w1) (by omega) (by omega) (by omega) (r1.get rfl gv_r34_0) (r1.get rfl gv_r34_0) (r1.get rfl gv_r32_0) hV hP (by rw [gv_l35]; omega) (by rw [gv_l33]; omega) (by rw [gv_l35]; omega) (by rw [gv_l35]; omega) (by rw [gv_l35]; omega)
  exact ⟨w1, w2, a1, b1, f1.trans (b2.wp ⟨by omega, by omega⟩ ⟨by omega, by omega⟩), f1, b3⟩
