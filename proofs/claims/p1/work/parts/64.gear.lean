/-! gear -/
theorem gv_r6_0 : gv_u.2.2 6 0 = 8 := by decide +kernel
theorem gv_r6_1 : gv_u.2.2 6 1 = 9 := by decide +kernel
theorem gv_rm21 : gv_u.2.2 670 21 = 675 := by decide +kernel
theorem gv_rm22 : gv_u.2.2 670 22 = 676 := by decide +kernel
theorem gv_rm23 : gv_u.2.2 670 23 = 677 := by decide +kernel
theorem gv_rm24 : gv_u.2.2 670 24 = 678 := by decide +kernel
theorem gv_rm25 : gv_u.2.2 670 25 = 679 := by decide +kernel
theorem gv_rm28 : gv_u.2.2 670 28 = 682 := by decide +kernel
theorem gv_l7 : gv_z.2.2 7 = 60 := by decide +kernel
theorem gv_l8 : gv_z.2.2 8 = 480 := by decide +kernel
theorem gv_l674 : gv_z.2.2 674 = 60 := by decide +kernel
theorem gv_l675 : gv_z.2.2 675 = 120 := by decide +kernel
theorem gv_l676 : gv_z.2.2 676 = 120 := by decide +kernel
theorem gv_l677 : gv_z.2.2 677 = 120 := by decide +kernel
theorem gv_l678 : gv_z.2.2 678 = 120 := by decide +kernel
theorem gv_l681 : gv_z.2.2 681 = 60 := by decide +kernel
/-- an index in range -/
theorem gv_ix {k m : Nat} (h : k < m) (hm : k < 2147483648) : ¬ (Int32.ofNat k < 0 ∨ m ≤ (Int32.ofNat k).toNatClampNeg) := by
  intro c
  rcases c with c | c
  · have := i32_lt.mp c
    have e0 : (0 : Int32).toInt = 0 := rfl
    rw [i32_nat hm] at this
    omega
  · rw [i32_clamp hm] at c
    omega
theorem gv_inc {n : Nat} : Int32.ofNat n + 1 = Int32.ofNat (n + 1) := gw_iS
theorem gv_dec {n : Nat} (h : n < 2147483647) : Int32.ofNat (n + 1) - 1 = Int32.ofNat n := by
  apply i32_ext
  have e1 : (1 : Int32).toInt = 1 := rfl
  rw [n32_sub (by rw [i32_nat (by omega), e1]; omega) (by rw [i32_nat (by omega), e1]; omega), i32_nat (by omega), i32_nat (by omega), e1]
  omega
theorem gv_lit {n k : Nat} (hn : n < 2147483648) (hk : k < 2147483648) : Int32.ofNat n = Int32.ofNat k ↔ n = k := by
  constructor
  · intro h
    have := congrArg Int32.toInt h
    rw [i32_nat hn, i32_nat hk] at this
    omega
  · intro h; rw [h]
theorem gs_Dgear1 {F : Nat} {z : gw_Sh} {u : gw_St} {x : Int32} (c : x.toInt < 4 ∨ 1000 < x.toInt) : gf_Desk_gear F z u 0 x = some (.inr 1, u) := by
  show gf_Desk_gear_b0 F z u 0 x = _
  unfold gf_Desk_gear_b0 gf_Desk_gear_b12
  have e4 : (4 : Int32).toInt = 4 := rfl
  have e9 : (1000 : Int32).toInt = 1000 := rfl
  by_cases h : x < 4
  · rw [if_pos h]
  · have h' : ¬ x.toInt < (4 : Int32).toInt := fun q => h (i32_lt.mpr q)
    rw [if_neg h, if_neg (fun q => by have := i32_le.mp q; omega)]
theorem gs_Dgear2 {F : Nat} {z : gw_Sh} {u : gw_St} {x : Int32} (hr : gv_Rf u) (h6 : u.1 6 2 = Int32.ofNat 60) (c : ¬ (x.toInt < 4 ∨ 1000 < x.toInt)) : gf_Desk_gear F z u 0 x = some (.inr 2, u) := by
  show gf_Desk_gear_b0 F z u 0 x = _
  unfold gf_Desk_gear_b0 gf_Desk_gear_b12
  have e4 : (4 : Int32).toInt = 4 := rfl
  have e9 : (1000 : Int32).toInt = 1000 := rfl
  rw [if_neg (fun q => by have := i32_lt.mp q; omega), if_pos (i32_le.mpr (by omega)), hr.get rfl gv_r0_1]
  simp only [gf_nn]
  rw [if_pos (show u.1 6 2 = (60 : Int32) from h6)]
theorem gs_Dgear3 {F : Nat} {u : gw_St} {n r : Nat} {x : Int32} (hr : gv_Rf u) (hw : gv_Wk u n r) (hn : n < 60) (c : ¬ (x.toInt < 4 ∨ 1000 < x.toInt)) : gf_Desk_gear F gv_z u 0 x = some (.inl (Int32.ofNat n), gw_wi (gw_wi u 7 n x) 6 2 (Int32.ofNat (n + 1))) := by
  show gf_Desk_gear_b0 F gv_z u 0 x = _
  unfold gf_Desk_gear_b0 gf_Desk_gear_b12
  have e4 : (4 : Int32).toInt = 4 := rfl
  have e9 : (1000 : Int32).toInt = 1000 := rfl
  have w3 := hw.2.2.1
  rw [if_neg (fun q => by have := i32_lt.mp q; omega), if_pos (i32_le.mpr (by omega)), hr.get rfl gv_r0_1]
  simp only [gf_nn]
  rw [if_neg (fun q => by rw [w3] at q; have := (gv_lit (n := n) (k := 60) (by omega) (by omega)).mp q; omega)]
  show gf_cl (gf_Works_addGear_b0 F gv_z u 6 x) _ = _
  unfold gf_Works_addGear_b0
  rw [hr.get rfl gv_r6_0]
  simp only [gf_nn, gf_nm]
  rw [w3, gv_l7, if_neg (gv_ix hn (by omega)), i32_clamp (by omega)]
  show some (Sum.inl (u.1 6 2 + 1 - 1), gw_wi (gw_wi u 7 n x) 6 2 (u.1 6 2 + 1)) = _
  rw [w3, gv_inc, gv_dec (by omega)]
theorem gs_Mgear1 {F : Nat} {z : gw_Sh} {w : gw_St} {x : Int32} (c : x.toInt < 4 ∨ 1000 < x.toInt) : gf_Model_gear F z w 670 x = some (0, gw_wi (gw_wi w 670 0 0) 670 0 1) := by
  show gf_Model_gear_b0 F z w 670 x = _
  unfold gf_Model_gear_b0
  simp only [gf_nm]
  have e4 : (4 : Int32).toInt = 4 := rfl
  have e9 : (1000 : Int32).toInt = 1000 := rfl
  rw [gs_within, if_neg (by omega)]
  rfl
theorem gs_Mgear2 {F : Nat} {z : gw_Sh} {w : gw_St} {x : Int32} (h6 : w.1 670 18 = Int32.ofNat 60) (c : ¬ (x.toInt < 4 ∨ 1000 < x.toInt)) : gf_Model_gear F z w 670 x = some (0, gw_wi (gw_wi w 670 0 0) 670 0 2) := by
  show gf_Model_gear_b0 F z w 670 x = _
  unfold gf_Model_gear_b0
  simp only [gf_nm]
  have e4 : (4 : Int32).toInt = 4 := rfl
  have e9 : (1000 : Int32).toInt = 1000 := rfl
  rw [gs_within, if_pos (by omega)]
  simp only [gf_cl]
  rw [if_neg (by decide), if_pos (show (gw_wi w 670 0 0).1 670 18 = 60 from h6)]
  rfl
theorem gs_Mgear3 {F : Nat} {w : gw_St} {n : Nat} {x : Int32} (hr : gv_Rf w) (h6 : w.1 670 18 = Int32.ofNat n) (hn : n < 60) (c : ¬ (x.toInt < 4 ∨ 1000 < x.toInt)) : gf_Model_gear F gv_z w 670 x = some (Int32.ofNat n, gw_wi (gw_wi (gw_wi (gw_wi w 670 0 0) 674 n x) 681 n 0) 670 18 (Int32.ofNat (n + 1))) := by
  show gf_Model_gear_b0 F gv_z w 670 x = _
  unfold gf_Model_gear_b0
  simp only [gf_nm]
  have e4 : (4 : Int32).toInt = 4 := rfl
  have e9 : (1000 : Int32).toInt = 1000 := rfl
  have h7 : (gw_wi w 670 0 0).1 670 18 = Int32.ofNat n := h6
  rw [gs_within, if_pos (by omega)]
  simp only [gf_cl]
  rw [if_neg (by decide), h7, if_neg (fun q => by have := (gv_lit (n := n) (k := 60) (by omega) (by omega)).mp q; omega)]
  rw [show (gw_wi w 670 0 0).2.2 670 21 = 675 from hr.get rfl gv_rm21]
  simp only [gf_nn]
  rw [gv_l674, if_neg (gv_ix hn (by omega)), i32_clamp (by omega)]
  rw [show (gw_wi (gw_wi w 670 0 0) 674 n x).2.2 670 28 = 682 from hr.get rfl gv_rm28]
  simp only [gf_nn]
  rw [show (gw_wi (gw_wi w 670 0 0) 674 n x).1 670 18 = Int32.ofNat n from h6, gv_l681, if_neg (gv_ix hn (by omega)), i32_clamp (by omega)]
  rw [show (gw_wi (gw_wi (gw_wi w 670 0 0) 674 n x) 681 n (vp_nar .boolean (0 : Int32))).1 670 18 = Int32.ofNat n from h6, gv_inc]
  show some (Int32.ofNat (n + 1) - 1, _) = _
  rw [gv_dec (by omega)]
  rfl
def gv_S_gear (p k : Nat) : Bool := p == 7 || (p == 6 && k == 2) || p == 674 || p == 681 || (p == 670 && (k == 0 || k == 18)) || (p == 701 && k == 0)
theorem gs_gear {F : Nat} {u : gw_St} {n r : Nat} (hr : gv_Rf u) (hw : gv_Wk u n r) (x : Int32) : ∃ n', n ≤ n' ∧ ∃ k a u1 u2, gf_Law_gear F gv_z u 0 x 701 = some (k, u1) ∧ gf_Model_gear F gv_z u1 670 x = some (a, u2) ∧ u2.1 670 0 = k ∧ (k = 0 → lg_cmp (u2.2.1 701 0) a.toInt64 = 0) ∧ gv_Wk u2 n' r ∧ gv_off gv_S_gear u u2 ∧ (∀ g, g < n → u2.1 681 g = u.1 681 g) ∧ (∀ g, n ≤ g → g < n' → u2.1 681 g = 0) := by
  obtain ⟨w1, w2, w3, w4, w5, w6, w7, w8, w9, w10, w11⟩ := id hw
  by_cases c : x.toInt < 4 ∨ 1000 < x.toInt
  · refine ⟨n, Nat.le_refl _, _, _, _, _, lw_gear_1 (gs_Dgear1 c), gs_Mgear1 c, rfl, fun q => absurd q (by decide), hw.same (fun p k h => ?_), ⟨fun p k hS => ?_, rfl⟩, fun g hg => rfl, fun g h1 h2 => by omega⟩
    · simp only [gv_T_wk, Bool.or_eq_true, Bool.and_eq_true, beq_iff_eq] at h
      simp only [gw_wi]
      rw [if_neg (by omega), if_neg (by omega)]
    · simp only [gv_S_gear, Bool.or_eq_false_iff, Bool.and_eq_false_iff, beq_eq_false_iff_ne, ne_eq] at hS
      refine ⟨?_, rfl⟩
      simp only [gw_wi]
      rw [if_neg (by omega), if_neg (by omega)]
  · by_cases hn : n < 60
    · have hr2 : gv_Rf (gw_wl (gw_wi (gw_wi u 7 n x) 6 2 (Int32.ofNat (n + 1))) 701 0 (Int32.ofNat n).toInt64) := hr.eq rfl
      refine ⟨n + 1, Nat.le_succ _, _, _, _, _, lw_gear_v (gs_Dgear3 hr hw hn c) gv_zo, gs_Mgear3 hr2 w4 hn c, rfl, fun _ => lgc_zero.mpr rfl, ?_, ⟨fun p k hS => ?_, rfl⟩, fun g hg => ?_, fun g h1 h2 => ?_⟩
      · refine ⟨by omega, w2, rfl, rfl, w5, w6, fun g hg => ?_, fun j hj => ?_, w9, w10, ?_⟩
        · by_cases hg2 : g = n
          · subst hg2
            have e1 : (gw_wi (gw_wi (gw_wi (gw_wi (gw_wl (gw_wi (gw_wi u 7 g x) 6 2 (Int32.ofNat (g + 1))) 701 0 (Int32.ofNat g).toInt64) 670 0 0) 674 g x) 681 g 0) 670 18 (Int32.ofNat (g + 1))).1 674 g = x := by simp [gw_wi, gw_wl]
            have e2 : (gw_wi (gw_wi (gw_wi (gw_wi (gw_wl (gw_wi (gw_wi u 7 g x) 6 2 (Int32.ofNat (g + 1))) 701 0 (Int32.ofNat g).toInt64) 670 0 0) 674 g x) 681 g 0) 670 18 (Int32.ofNat (g + 1))).1 7 g = x := by simp [gw_wi, gw_wl]
            rw [e1, e2]
            exact ⟨rfl, by omega, by omega⟩
          · have e1 : (gw_wi (gw_wi (gw_wi (gw_wi (gw_wl (gw_wi (gw_wi u 7 n x) 6 2 (Int32.ofNat (n + 1))) 701 0 (Int32.ofNat n).toInt64) 670 0 0) 674 n x) 681 n 0) 670 18 (Int32.ofNat (n + 1))).1 674 g = u.1 674 g := by simp [gw_wi, gw_wl, hg2]
            have e2 : (gw_wi (gw_wi (gw_wi (gw_wi (gw_wl (gw_wi (gw_wi u 7 n x) 6 2 (Int32.ofNat (n + 1))) 701 0 (Int32.ofNat n).toInt64) 670 0 0) 674 n x) 681 n 0) 670 18 (Int32.ofNat (n + 1))).1 7 g = u.1 7 g := by simp [gw_wi, gw_wl, hg2]
            rw [e1, e2]
            exact w7 g (by omega)
        · have e8 : ∀ k, (gw_wi (gw_wi (gw_wi (gw_wi (gw_wl (gw_wi (gw_wi u 7 n x) 6 2 (Int32.ofNat (n + 1))) 701 0 (Int32.ofNat n).toInt64) 670 0 0) 674 n x) 681 n 0) 670 18 (Int32.ofNat (n + 1))).1 8 k = u.1 8 k := fun k => rfl
          have e7 : ∀ g, g < n → (gw_wi (gw_wi (gw_wi (gw_wi (gw_wl (gw_wi (gw_wi u 7 n x) 6 2 (Int32.ofNat (n + 1))) 701 0 (Int32.ofNat n).toInt64) 670 0 0) 674 n x) 681 n 0) 670 18 (Int32.ofNat (n + 1))).1 7 g = u.1 7 g := fun g hg => by
            have : g ≠ n := by omega
            simp [gw_wi, gw_wl, this]
          obtain ⟨v1, v2, v3, v4, v5, v6, v7, v8, v9, v10, v11, v12, v13, v14⟩ := w8 j hj
          refine ⟨v1, v2, v3, v4, v5, v6, v7, ?_, v9, ?_, v11, fun q => ?_, v13, fun q => ?_⟩
          · show (u.1 8 (4 * j + 1)).toInt < ((n + 1 : Nat) : Int)
            omega
          · show (u.1 8 (4 * j + 2)).toInt < ((n + 1 : Nat) : Int)
            omega
          · obtain ⟨q1, q2, q3, q4⟩ := v12 q
            refine ⟨q1, ?_, q3, q4⟩
            show (u.1 8 (4 * j + 3)).toInt < ((n + 1 : Nat) : Int)
            omega
          · have q5 := v14 q
            have t1 : (u.1 8 (4 * j + 1)).toNatClampNeg < n := by
              have : ((u.1 8 (4 * j + 1)).toNatClampNeg : Int) = (u.1 8 (4 * j + 1)).toInt := Int.toNat_of_nonneg v7
              omega
            have t2 : (u.1 8 (4 * j + 2)).toNatClampNeg < n := by
              have : ((u.1 8 (4 * j + 2)).toNatClampNeg : Int) = (u.1 8 (4 * j + 2)).toInt := Int.toNat_of_nonneg v9
              omega
            rw [e8, e8, e7 _ t1, e7 _ t2]
            exact q5
        · show (u.1 6 4).toInt < ((n + 1 : Nat) : Int)
          omega
      · simp only [gv_S_gear, Bool.or_eq_false_iff, Bool.and_eq_false_iff, beq_eq_false_iff_ne, ne_eq] at hS
        constructor
        · simp only [gw_wi, gw_wl]
          rw [if_neg (by omega), if_neg (by omega), if_neg (by omega), if_neg (by omega), if_neg (by omega), if_neg (by omega)]
        · simp only [gw_wi, gw_wl]
          rw [if_neg (by omega)]
      · have : g ≠ n := by omega
        simp [gw_wi, gw_wl, this]
      · have : g = n := by omega
        subst this
        simp [gw_wi, gw_wl]
    · have h60 : n = 60 := by omega
      subst h60
      refine ⟨60, Nat.le_refl _, _, _, _, _, lw_gear_2 (gs_Dgear2 hr w3 c), gs_Mgear2 w4 c, rfl, fun q => absurd q (by decide), hw.same (fun p k h => ?_), ⟨fun p k hS => ?_, rfl⟩, fun g hg => rfl, fun g h1 h2 => by omega⟩
      · simp only [gv_T_wk, Bool.or_eq_true, Bool.and_eq_true, beq_iff_eq] at h
        simp only [gw_wi]
        rw [if_neg (by omega), if_neg (by omega)]
      · simp only [gv_S_gear, Bool.or_eq_false_iff, Bool.and_eq_false_iff, beq_eq_false_iff_ne, ne_eq] at hS
        refine ⟨?_, rfl⟩
        simp only [gw_wi]
        rw [if_neg (by omega), if_neg (by omega)]
