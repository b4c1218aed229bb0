theorem gs_Mwant0 {F : Nat} {z : gw_Sh} {w : gw_St} {x1 x2 s lo hi : Int32} (h : ¬ (1 ≤ x1.toInt ∧ 1 ≤ x2.toInt ∧ gv_al s lo hi)) : gf_Model_want F z w 670 x1 x2 s lo hi = some (0, gw_wi (gw_wi w 670 0 0) 670 0 1) := by
  have e1 : (1 : Int32).toInt = 1 := rfl
  have e4 : (4 : Int32).toInt = 4 := rfl
  have e8 : (8 : Int32).toInt = 8 := rfl
  have e120 : (120 : Int32).toInt = 120 := rfl
  have e60 : (60 : Int32).toInt = 60 := rfl
  have e20 : (20 : Int32).toInt = 20 := rfl
  show gf_Model_want_b0 F z w 670 x1 x2 s lo hi = _
  unfold gf_Model_want_b0 gf_Model_want_b72
  simp only [gf_nm]
  by_cases c1 : x1 < 1
  · rw [if_pos c1]; rfl
  have c1' : ¬ x1.toInt < (1 : Int32).toInt := fun q => c1 (i32_lt.mpr q)
  rw [if_neg c1]
  by_cases c2 : x2 < 1
  · rw [if_pos c2]; rfl
  have c2' : ¬ x2.toInt < (1 : Int32).toInt := fun q => c2 (i32_lt.mpr q)
  rw [if_neg c2, gs_within]
  by_cases c3 : (1 : Int32).toInt ≤ s.toInt ∧ s.toInt ≤ (4 : Int32).toInt
  · rw [if_pos c3]
    simp only [gf_cl]
    rw [if_neg (by decide)]
    by_cases c4 : lo < 8
    · rw [if_pos c4]; rfl
    have c4' : ¬ lo.toInt < (8 : Int32).toInt := fun q => c4 (i32_lt.mpr q)
    rw [if_neg c4]
    by_cases c5 : hi < lo
    · rw [if_pos c5]; rfl
    have c5' : ¬ hi.toInt < lo.toInt := fun q => c5 (i32_lt.mpr q)
    rw [if_neg c5]
    by_cases c6 : hi ≤ 120
    · have c6' := i32_le.mp c6
      have en := gv_num (lo := lo) (hi := hi) (by omega) (by omega) (by omega)
      rw [if_pos c6]
      by_cases c7 : s = 3
      · have s3 : s.toInt = 3 := by rw [c7]; rfl
        rw [if_pos c7]
        by_cases c8 : 60 < hi - lo + 1
        · rw [if_pos c8]; rfl
        · have c8' : ¬ (60 : Int32).toInt < (hi - lo + 1).toInt := fun q => c8 (i32_lt.mpr q)
          exact absurd ⟨by omega, by omega, by omega, by omega, by omega, by omega, by omega, by omega, by omega⟩ h
      · have s3 : s.toInt ≠ 3 := fun q => c7 (i32_ext (by rw [q]; rfl))
        rw [if_neg c7]
        by_cases c9 : s = 4
        · have s4 : s.toInt = 4 := by rw [c9]; rfl
          rw [if_pos c9]
          by_cases c10 : hi - lo + 1 ≤ 20
          · have := i32_le.mp c10
            exact absurd ⟨by omega, by omega, by omega, by omega, by omega, by omega, by omega, by omega, by omega⟩ h
          · rw [if_neg c10]; rfl
        · have s4 : s.toInt ≠ 4 := fun q => c9 (i32_ext (by rw [q]; rfl))
          exact absurd ⟨by omega, by omega, by omega, by omega, by omega, by omega, by omega, by omega, by omega⟩ h
    · rw [if_neg c6]; rfl
  · rw [if_neg c3]; rfl
theorem gv_r0_0 : gv_u.2.2 0 0 = 2 := by decide +kernel
theorem gs_Dwant0 {F : Nat} {z : gw_Sh} {u : gw_St} {x1 x2 s lo hi : Int32} (h : ¬ (1 ≤ x1.toInt ∧ 1 ≤ x2.toInt ∧ gv_al s lo hi)) : gf_Desk_want F z u 0 x1 x2 s lo hi = some (.inr 1, u) := by
  have e1 : (1 : Int32).toInt = 1 := rfl
  show gf_Desk_want_b0 F z u 0 x1 x2 s lo hi = _
  unfold gf_Desk_want_b0 gf_Desk_want_b21
  by_cases c1 : x1 < 1
  · rw [if_pos c1]
  have c1' : ¬ x1.toInt < (1 : Int32).toInt := fun q => c1 (i32_lt.mpr q)
  rw [if_neg c1]
  by_cases c2 : x2 < 1
  · rw [if_pos c2]
  have c2' : ¬ x2.toInt < (1 : Int32).toInt := fun q => c2 (i32_lt.mpr q)
  rw [if_neg c2, gs_allowed, if_neg (fun q => h ⟨by omega, by omega, q⟩)]
  rfl
theorem gs_Dwant1 {F : Nat} {z : gw_Sh} {u w : gw_St} {x1 x2 s lo hi k : Int32} (hr : gv_Rf u) (h1 : 1 ≤ x1.toInt) (h2 : 1 ≤ x2.toInt) (h3 : gv_al s lo hi) (hb : gf_Trains_begin F z u 1 x1 x2 s lo hi = some (k, w)) : gf_Desk_want F z u 0 x1 x2 s lo hi = some (.inl k, w) := by
  have e1 : (1 : Int32).toInt = 1 := rfl
  show gf_Desk_want_b0 F z u 0 x1 x2 s lo hi = _
  unfold gf_Desk_want_b0
  rw [if_neg (fun q : x1 < 1 => by have := i32_lt.mp q; omega), if_neg (fun q : x2 < 1 => by have := i32_lt.mp q; omega), gs_allowed, if_pos h3]
  simp only [gf_cl]
  rw [if_neg (by decide), hr.get rfl gv_r0_0]
  simp only [gf_nn]
  rw [hb]
