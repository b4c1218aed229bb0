/-! relation -/
theorem gs_needRel {F : Nat} {z : gw_Sh} {u : gw_St} {x : Int32} {r : Nat} (hr : gv_Rf u) (hn : r ≤ 120) (h : u.1 6 3 = Int32.ofNat r) : gf_Desk_needRelation F z u 0 x = some (if gv_in r x then .inl () else .inr 3, u) := by
  show gf_Desk_needRelation_b0 F z u 0 x = _
  unfold gf_Desk_needRelation_b0 gf_Desk_needRelation_b15
  have e0 : (0 : Int32).toInt = 0 := rfl
  by_cases h1 : x < 0
  · have h1' := i32_lt.mp h1
    rw [if_pos h1, if_neg (by omega)]
  · have h1' : ¬ x.toInt < 0 := fun q => h1 (i32_lt.mpr q)
    rw [if_neg h1, hr.get rfl gv_r0_1]
    simp only [gf_nn]
    rw [h]
    by_cases h2 : x < Int32.ofNat r
    · have h2' := i32_lt.mp h2
      rw [i32_nat (by omega)] at h2'
      rw [if_pos h2, if_pos (by omega)]
    · have h2' : ¬ x.toInt < (Int32.ofNat r).toInt := fun q => h2 (i32_lt.mpr q)
      rw [i32_nat (by omega)] at h2'
      rw [if_neg h2, if_neg (by omega)]
theorem gs_part {F : Nat} {u : gw_St} {r : Nat} {x y : Int32} (hr : gv_Rf u) (hn : r ≤ 120) (hx : gv_in r x) (hy : gv_in 4 y) : gf_Works_part F gv_z u 6 x y = some (u.1 8 (4 * x.toNatClampNeg + y.toNatClampNeg), u) := by
  show gf_Works_part_b0 F gv_z u 6 x y = _
  unfold gf_Works_part_b0
  have hx1 : (x.toNatClampNeg : Int) = x.toInt := Int.toNat_of_nonneg hx.1
  have hy1 : (y.toNatClampNeg : Int) = y.toInt := Int.toNat_of_nonneg hy.1
  have e : x * 4 + y = Int32.ofNat (4 * x.toNatClampNeg + y.toNatClampNeg) := by
    rw [i32_of hx.1, i32_of hy.1, gv_m4, i32_clamp (by omega), i32_clamp (by omega), gv_ij _ (by omega)]
  rw [hr.get rfl gv_r6_1]
  simp only [gf_nn]
  rw [e, gv_l8, if_neg (gv_ix (by omega) (by omega)), i32_clamp (by omega)]
theorem gs_Drel {F : Nat} {u : gw_St} {n r : Nat} {x y : Int32} (hr : gv_Rf u) (hw : gv_Wk u n r) : gf_Desk_relation F gv_z u 0 x y = if gv_in r x ∧ gv_in 4 y then some (.inl (u.1 8 (4 * x.toNatClampNeg + y.toNatClampNeg)), u) else some (.inr 3, u) := by
  obtain ⟨w1, w2, w3, w4, w5, -⟩ := id hw
  show gf_Desk_relation_b0 F gv_z u 0 x y = _
  unfold gf_Desk_relation_b0 gf_Desk_relation_b14
  have e0 : (0 : Int32).toInt = 0 := rfl
  have e4 : (4 : Int32).toInt = 4 := rfl
  rw [gs_needRel hr w2 w5]
  by_cases cx : gv_in r x
  · rw [if_pos cx]
    simp only [gf_ct]
    by_cases c1 : y < 0
    · have := i32_lt.mp c1
      rw [if_pos c1, if_neg (by omega)]
    · have c1' : ¬ y.toInt < (0 : Int32).toInt := fun q => c1 (i32_lt.mpr q)
      rw [if_neg c1]
      by_cases c2 : y < 4
      · have := i32_lt.mp c2
        have cy : gv_in 4 y := by omega
        rw [if_pos c2, if_pos ⟨cx, cy⟩, hr.get rfl gv_r0_1]
        simp only [gf_nn]
        rw [gs_part hr w2 cx cy]
        rfl
      · have c2' : ¬ y.toInt < (4 : Int32).toInt := fun q => c2 (i32_lt.mpr q)
        rw [if_neg c2, if_neg (by omega)]
  · rw [if_neg cx, if_neg (fun q => cx q.1)]
    rfl
theorem gv_inx2 {r m : Nat} {x : Int32} (h : gv_in r x) (hn : r ≤ m) : x.toNatClampNeg < r ∧ ¬ (x < 0 ∨ m ≤ x.toNatClampNeg) := by
  have h1 : (x.toNatClampNeg : Int) = x.toInt := Int.toNat_of_nonneg h.1
  have e0 : (0 : Int32).toInt = 0 := rfl
  refine ⟨by omega, fun q => ?_⟩
  rcases q with q | q
  · have := i32_lt.mp q
    omega
  · omega
theorem gs_Mrelation {F : Nat} {u w : gw_St} {n r : Nat} {x y : Int32} (hr : gv_Rf w) (hw : gv_Wk u n r) (e : ∀ p k, gv_T_wk p k = true → w.1 p k = u.1 p k) : gf_Model_relation F gv_z w 670 x y = if gv_in r x ∧ gv_in 4 y then some (u.1 8 (4 * x.toNatClampNeg + y.toNatClampNeg), gw_wi w 670 0 0) else some (0, gw_wi (gw_wi w 670 0 0) 670 0 1) := by
  obtain ⟨w1, w2, w3, w4, w5, w6, w7, w8, -⟩ := id hw
  have e19 : (gw_wi w 670 0 0).1 670 19 = Int32.ofNat r := (e 670 19 rfl).trans w6
  have el : ((gw_wi w 670 0 0).1 670 19 - (1 : Int32)).toInt = (r : Int) - 1 := by
    have e1 : (1 : Int32).toInt = 1 := rfl
    rw [e19, n32_sub (by rw [i32_nat (by omega), e1]; omega) (by rw [i32_nat (by omega), e1]; omega), i32_nat (by omega), e1]
  have e0 : (0 : Int32).toInt = 0 := rfl
  have e3 : (3 : Int32).toInt = 3 := rfl
  show gf_Model_relation_b0 F gv_z w 670 x y = _
  unfold gf_Model_relation_b0 gf_Model_relation_b28 gf_Model_relation_b81
  simp only [gf_nm]
  rw [gs_within, el, e0]
  by_cases cx : gv_in r x
  · rw [if_pos (show 0 ≤ x.toInt ∧ x.toInt ≤ (r : Int) - 1 by omega)]
    simp only [gf_cl]
    rw [if_neg (by decide), gs_within, e0, e3]
    by_cases cy : gv_in 4 y
    · rw [if_pos (show 0 ≤ y.toInt ∧ y.toInt ≤ 3 by omega), if_pos ⟨cx, cy⟩]
      simp only []
      rw [if_neg (by decide)]
      obtain ⟨x1, x2⟩ := gv_inx2 cx w2
      obtain ⟨v1, v2, v3, v4, -⟩ := w8 _ x1
      have hy1 : (y.toNatClampNeg : Int) = y.toInt := Int.toNat_of_nonneg cy.1
      by_cases y0 : y = 0
      · have : y.toNatClampNeg = 0 := by rw [y0]; rfl
        rw [if_pos y0, show (gw_wi w 670 0 0).2.2 670 22 = 676 from hr.get rfl gv_rm22]
        simp only [gf_nn]
        rw [gv_l675, if_neg x2, this, show (gw_wi w 670 0 0).1 675 x.toNatClampNeg = u.1 675 x.toNatClampNeg from e 675 _ rfl, v1]
        rfl
      · rw [if_neg y0]
        by_cases y1 : y = 1
        · have : y.toNatClampNeg = 1 := by rw [y1]; rfl
          rw [if_pos y1, show (gw_wi w 670 0 0).2.2 670 23 = 677 from hr.get rfl gv_rm23]
          simp only [gf_nn]
          rw [gv_l676, if_neg x2, this, show (gw_wi w 670 0 0).1 676 x.toNatClampNeg = u.1 676 x.toNatClampNeg from e 676 _ rfl, v2]
        · rw [if_neg y1]
          by_cases y2 : y = 2
          · have : y.toNatClampNeg = 2 := by rw [y2]; rfl
            rw [if_pos y2, show (gw_wi w 670 0 0).2.2 670 24 = 678 from hr.get rfl gv_rm24]
            simp only [gf_nn]
            rw [gv_l677, if_neg x2, this, show (gw_wi w 670 0 0).1 677 x.toNatClampNeg = u.1 677 x.toNatClampNeg from e 677 _ rfl, v3]
          · have t0 : y.toInt ≠ 0 := fun q => y0 (i32_ext (by rw [q]; rfl))
            have t1 : y.toInt ≠ 1 := fun q => y1 (i32_ext (by rw [q]; rfl))
            have t2 : y.toInt ≠ 2 := fun q => y2 (i32_ext (by rw [q]; rfl))
            have : y.toNatClampNeg = 3 := by omega
            rw [if_neg y2, show (gw_wi w 670 0 0).2.2 670 25 = 679 from hr.get rfl gv_rm25]
            simp only [gf_nn]
            rw [gv_l678, if_neg x2, this, show (gw_wi w 670 0 0).1 678 x.toNatClampNeg = u.1 678 x.toNatClampNeg from e 678 _ rfl, v4]
    · rw [if_neg (show ¬ (0 ≤ y.toInt ∧ y.toInt ≤ 3) by omega), if_neg (fun q => cy q.2)]
      rfl
  · rw [if_neg (show ¬ (0 ≤ x.toInt ∧ x.toInt ≤ (r : Int) - 1) by omega), if_neg (fun q => cx q.1)]
    rfl
theorem gs_relation {F : Nat} {u : gw_St} {n r : Nat} (hr : gv_Rf u) (hw : gv_Wk u n r) (x y : Int32) : gv_Op gv_S_thr u n r (gf_Law_relation F gv_z u 0 x y 701) (fun w => gf_Model_relation F gv_z w 670 x y) (fun w a => lg_cmp (w.2.1 701 0) a.toInt64 = 0) := by
  by_cases c : gv_in r x ∧ gv_in 4 y
  · have D := gs_Drel (F := F) (x := x) (y := y) hr hw
    rw [if_pos c] at D
    have M := gs_Mrelation (F := F) (x := x) (y := y) (w := gw_wl u 701 0 (u.1 8 (4 * x.toNatClampNeg + y.toNatClampNeg)).toInt64) (hr.eq rfl) hw (fun _ _ _ => rfl)
    rw [if_pos c] at M
    exact ⟨_, _, _, _, lw_relation_v D gv_zo, M, rfl, fun _ => lgc_zero.mpr rfl, hw.off gv_off_thr1, gv_off_thr1⟩
  · have D := gs_Drel (F := F) (x := x) (y := y) hr hw
    rw [if_neg c] at D
    have M := gs_Mrelation (F := F) (x := x) (y := y) (w := u) hr hw (fun _ _ _ => rfl)
    rw [if_neg c] at M
    exact ⟨_, _, _, _, lw_relation_3 D, M, rfl, fun q => absurd q (by decide), hw.off gv_off_thr, gv_off_thr⟩
