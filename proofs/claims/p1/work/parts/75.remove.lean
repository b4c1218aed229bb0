theorem gv_sh_nil {w : gw_St} {a : Nat} : gv_sh w a a = w := by
  refine Prod.ext ?_ rfl
  funext p q
  simp only [gv_sh]
  rw [if_neg (by omega)]
theorem gv_sub {a b : Nat} (h : b ≤ a) (ha : a < 2147483648) : Int32.ofNat a - Int32.ofNat b = Int32.ofNat (a - b) := by
  apply i32_ext
  rw [n32_sub (by rw [i32_nat ha, i32_nat (by omega)]; omega) (by rw [i32_nat ha, i32_nat (by omega)]; omega), i32_nat ha, i32_nat (by omega), i32_nat (by omega)]
  omega
theorem gs_drop {F : Nat} {u : gw_St} {r X : Nat} (hr : gv_Rf u) (h3 : u.1 6 3 = Int32.ofNat r) (hX : X < r) (hn : r ≤ 120) : gf_Works_dropRelation F gv_z u 6 (Int32.ofNat X) = some (gw_cp (gw_wi u 6 3 (Int32.ofNat (r - 1))) 8 (4 * X + 4) 8 (4 * X) (4 * (r - 1) - 4 * X)) := by
  show gf_Works_dropRelation_b0 F gv_z u 6 (Int32.ofNat X) = _
  unfold gf_Works_dropRelation_b0
  simp only [gf_nm]
  rw [h3, gv_m4, show Int32.ofNat r - 1 = Int32.ofNat (r - 1) from gv_sub (b := 1) (by omega) (by omega)]
  rw [show (gw_wi u 6 3 (Int32.ofNat (r - 1))).2.2 6 1 = 9 from hr.get rfl gv_r6_1]
  simp only [gf_nn]
  rw [show (gw_wi u 6 3 (Int32.ofNat (r - 1))).1 6 3 = Int32.ofNat (r - 1) from rfl, gv_m4, gv_sub (by omega) (by omega), show Int32.ofNat (4 * X) + 4 = Int32.ofNat (4 * X + 4) from gv_ij 4 (by omega), gv_l8, i32_clamp (n := 4 * X + 4) (by omega), i32_clamp (n := 4 * X) (by omega), i32_clamp (n := 4 * (r - 1) - 4 * X) (by omega)]
  have e0 : (0 : Int32).toInt = 0 := rfl
  rw [if_neg]
  intro q
  rcases q with q | q | q | q | q
  · have := i32_lt.mp q
    rw [i32_nat (by omega)] at this
    omega
  · have := i32_lt.mp q
    rw [i32_nat (by omega)] at this
    omega
  · have := i32_lt.mp q
    rw [i32_nat (by omega)] at this
    omega
  · omega
  · omega
theorem gs_Mremove {F : Nat} (hF : 1000 ≤ F) {w : gw_St} {r : Nat} {x : Int32} (hr : gv_Rf w) (h3 : w.1 670 19 = Int32.ofNat r) (hn : r ≤ 120) : gf_Model_remove F gv_z w 670 x = if gv_in r x then some (Int32.ofNat (r - 1), gv_sh (gw_wi (gw_wi w 670 0 0) 670 19 (Int32.ofNat (r - 1))) x.toNatClampNeg (r - 1)) else some (0, gw_wi (gw_wi w 670 0 0) 670 0 1) := by
  have e19 : (gw_wi w 670 0 0).1 670 19 = Int32.ofNat r := h3
  have el : ((gw_wi w 670 0 0).1 670 19 - (1 : Int32)).toInt = (r : Int) - 1 := by
    have e1 : (1 : Int32).toInt = 1 := rfl
    rw [e19, n32_sub (by rw [i32_nat (by omega), e1]; omega) (by rw [i32_nat (by omega), e1]; omega), i32_nat (by omega), e1]
  have e0 : (0 : Int32).toInt = 0 := rfl
  show gf_Model_remove_b0 F gv_z w 670 x = _
  unfold gf_Model_remove_b0
  simp only [gf_nm]
  rw [gs_within, el, e0]
  by_cases c : gv_in r x
  · have hx1 : (x.toNatClampNeg : Int) = x.toInt := Int.toNat_of_nonneg c.1
    rw [if_pos (show 0 ≤ x.toInt ∧ x.toInt ≤ (r : Int) - 1 by omega), if_pos c]
    simp only [gf_cl]
    rw [if_neg (by decide), e19, show Int32.ofNat r - 1 = Int32.ofNat (r - 1) from gv_sub (b := 1) (by omega) (by omega)]
    have L := gs_rmL (F := F) (w := gw_wi (gw_wi w 670 0 0) 670 19 (Int32.ofNat (r - 1))) (r := r - 1) (a := x.toNatClampNeg) (hr.eq rfl) rfl (by omega) (r - 1 - x.toNatClampNeg) F x.toNatClampNeg (by omega) (Nat.le_refl _) (by omega)
    rw [gv_sh_nil, ← i32_of c.1] at L
    exact L
  · rw [if_neg (show ¬ (0 ≤ x.toInt ∧ x.toInt ≤ (r : Int) - 1) by omega), if_neg c]
    rfl
theorem gs_Dremove {F : Nat} {u : gw_St} {n r : Nat} {x : Int32} (hr : gv_Rf u) (hw : gv_Wk u n r) : gf_Desk_remove F gv_z u 0 x = if gv_in r x then some (.inl (Int32.ofNat (r - 1)), gw_cp (gw_wi u 6 3 (Int32.ofNat (r - 1))) 8 (4 * x.toNatClampNeg + 4) 8 (4 * x.toNatClampNeg) (4 * (r - 1) - 4 * x.toNatClampNeg)) else some (.inr 3, u) := by
  obtain ⟨w1, w2, w3, w4, w5, -⟩ := id hw
  show gf_Desk_remove_b0 F gv_z u 0 x = _
  unfold gf_Desk_remove_b0
  rw [gs_needRel hr w2 w5]
  by_cases c : gv_in r x
  · have hx1 : (x.toNatClampNeg : Int) = x.toInt := Int.toNat_of_nonneg c.1
    rw [if_pos c, if_pos c]
    simp only [gf_ct]
    rw [hr.get rfl gv_r0_1]
    simp only [gf_nn]
    have d := gs_drop (F := F) (X := x.toNatClampNeg) hr w5 (by omega) w2
    rw [← i32_of c.1] at d
    rw [d]
    simp only [Option.bind_some]
    rw [show (gw_cp (gw_wi u 6 3 (Int32.ofNat (r - 1))) 8 (4 * x.toNatClampNeg + 4) 8 (4 * x.toNatClampNeg) (4 * (r - 1) - 4 * x.toNatClampNeg)).2.2 0 1 = 7 from hr.get rfl gv_r0_1]
    rfl
  · rw [if_neg c, if_neg c]
    rfl
