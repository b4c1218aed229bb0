/-! quotient -/
theorem gs_qend {F : Nat} {z : gw_Sh} {u w : gw_St} {x3 x4 x5 : Int32} (h3 : 0 ≤ x3.toInt) (h5 : 0 ≤ x5.toInt) : ∃ r : Option Int32, gf_Desk_quotient_b71 F z u x4 x5 = some ((match r with | some v => .inl v | none => .inr 3), u) ∧ gf_Model_quotient_b62 F z w 670 x3 x4 x5 = some ((match r with | some v => v | none => 0), (match r with | some _ => w | none => gw_wi w 670 0 2)) := by
  unfold gf_Desk_quotient_b71 gf_Model_quotient_b62
  have e0 : (0 : Int32).toInt = 0 := rfl
  rw [if_neg (fun q : x3 < 0 => by have := i32_lt.mp q; omega)]
  by_cases c : x5 = 0
  · rw [if_pos c, if_pos (show x5 ≤ 0 by rw [c]; decide)]
    exact ⟨none, rfl, rfl⟩
  · have c' : x5.toInt ≠ 0 := fun q => c (i32_ext (by rw [q]; rfl))
    rw [if_neg c, if_neg c, if_neg (fun q : x5 ≤ 0 => by have := i32_le.mp q; omega)]
    try rw [if_neg c]
    exact ⟨some (x4 / x5), rfl, rfl⟩
theorem gs_qL {F : Nat} {z : gw_Sh} {u w : gw_St} {x3 : Int32} (h3 : 0 ≤ x3.toInt) : ∀ (f : Nat) (x4 x5 x6 : Int32), 0 ≤ x4.toInt → 0 ≤ x5.toInt → x5.toInt < f → ∃ r : Option Int32, gf_Desk_quotient_L39 F z f u x3 x4 x5 x6 = some ((match r with | some v => .inl v | none => .inr 3), u) ∧ gf_Model_quotient_L30 F z f w 670 x3 x4 x5 x6 = some ((match r with | some v => v | none => 0), (match r with | some _ => w | none => gw_wi w 670 0 2)) := by
  intro f
  induction f with
  | zero => intro x4 x5 x6 h4 h5 hf; omega
  | succ f ih =>
    intro x4 x5 x6 h4 h5 hf
    have e0 : (0 : Int32).toInt = 0 := rfl
    show ∃ r : Option Int32, gf_Desk_quotient_S39 F z (gf_Desk_quotient_L39 F z f) u x3 x4 x5 x6 = _ ∧ gf_Model_quotient_S30 F z (gf_Model_quotient_L30 F z f) w 670 x3 x4 x5 x6 = _
    unfold gf_Desk_quotient_S39 gf_Model_quotient_S30
    by_cases c1 : x3 ≤ x6
    · rw [if_pos c1, if_pos c1]
      exact gs_qend h3 h5
    · rw [if_neg c1, if_neg c1]
      by_cases c : x5 = 0
      · rw [if_pos c, if_pos (show x5 ≤ 0 by rw [c]; decide)]
        exact gs_qend h3 h5
      · have c' : x5.toInt ≠ 0 := fun q => c (i32_ext (by rw [q]; rfl))
        rw [if_neg c, if_neg c, if_neg (fun q : x5 ≤ 0 => by have := i32_le.mp q; omega)]
        try rw [if_neg c]
        simp only [gf_nm]
        have hrem := n32_rem (a := x4) (b := x5) h4 (by omega)
        have hlt := Int.emod_lt_of_pos x4.toInt (show 0 < x5.toInt by omega)
        have hge := Int.emod_nonneg x4.toInt c'
        exact ih x5 (x4 - x4 / x5 * x5) (x6 + 1) h5 (by rw [hrem]; exact hge) (by rw [hrem]; omega)
def gv_S_thr (p k : Nat) : Bool := (p == 670 && k == 0) || (p == 701 && k == 0)
theorem gv_off_thr {u : gw_St} {v k : Int32} : gv_off gv_S_thr u (gw_wi (gw_wi u 670 0 v) 670 0 k) := ⟨fun p q hS => by
    simp only [gv_S_thr, Bool.or_eq_false_iff, Bool.and_eq_false_iff, beq_eq_false_iff_ne, ne_eq] at hS
    refine ⟨?_, rfl⟩
    simp only [gw_wi]
    rw [if_neg (by omega), if_neg (by omega)], rfl⟩
theorem gv_off_thr1 {u : gw_St} {v : Int32} {y : Int64} : gv_off gv_S_thr u (gw_wi (gw_wl u 701 0 y) 670 0 v) := ⟨fun p q hS => by
    simp only [gv_S_thr, Bool.or_eq_false_iff, Bool.and_eq_false_iff, beq_eq_false_iff_ne, ne_eq] at hS
    constructor
    · simp only [gw_wi, gw_wl]
      rw [if_neg (by omega)]
    · simp only [gw_wi, gw_wl]
      rw [if_neg (by omega)], rfl⟩
theorem gv_Wk.off {u w : gw_St} {n r : Nat} (h : gv_Wk u n r) (e : gv_off gv_S_thr u w) : gv_Wk w n r := h.same (fun p k ht => (e.1 p k (by
  simp only [gv_T_wk, Bool.or_eq_true, Bool.and_eq_true, beq_iff_eq] at ht
  simp only [gv_S_thr, Bool.or_eq_false_iff, Bool.and_eq_false_iff, beq_eq_false_iff_ne, ne_eq]
  omega)).1)
theorem gs_quotient {F : Nat} (hF : 4294967296 ≤ F) {u : gw_St} {n r : Nat} (hw : gv_Wk u n r) (x1 x2 x3 : Int32) : gv_Op gv_S_thr u n r (gf_Law_quotient F gv_z u 0 x1 x2 x3 701) (fun w => gf_Model_quotient F gv_z w 670 x1 x2 x3) (fun w a => lg_cmp (w.2.1 701 0) a.toInt64 = 0) := by
  have D : gf_Desk_quotient F gv_z u 0 x1 x2 x3 = gf_Desk_quotient_b0 F gv_z u x1 x2 x3 := rfl
  have M : ∀ w, gf_Model_quotient F gv_z w 670 x1 x2 x3 = gf_Model_quotient_b0 F gv_z w 670 x1 x2 x3 := fun _ => rfl
  unfold gf_Desk_quotient_b0 at D
  unfold gf_Model_quotient_b0 at M
  have e0 : (0 : Int32).toInt = 0 := rfl
  have e1 : (1 : Int32).toInt = 1 := rfl
  by_cases c1 : x1 < 1
  · rw [if_pos c1] at D
    refine ⟨1, 0, u, gw_wi (gw_wi u 670 0 0) 670 0 1, lw_quotient_1 D, ?_, rfl, fun q => absurd q (by decide), hw.off gv_off_thr, gv_off_thr⟩
    show gf_Model_quotient F gv_z u 670 x1 x2 x3 = _
    rw [M]
    simp only [gf_nm]
    rw [if_pos c1]
    rfl
  · by_cases c2 : (1 : Int32) ≤ x2
    · have h1 : 0 ≤ x1.toInt := by
        have : ¬ x1.toInt < (1 : Int32).toInt := fun q => c1 (i32_lt.mpr q)
        omega
      have h2 : 0 ≤ x2.toInt := by
        have := i32_le.mp c2
        omega
      have h2b := n32_hi x2
      by_cases c3 : 0 ≤ x3
      · have h3 : 0 ≤ x3.toInt := by
          have := i32_le.mp c3
          omega
        rw [if_neg c1, if_pos c2, if_pos c3] at D
        obtain ⟨v, q1, -⟩ := gs_qL (F := F) (z := gv_z) (u := u) (w := u) h3 F x1 x2 0 h1 h2 (by omega)
        cases v with
        | some v =>
          obtain ⟨v', q3, q4⟩ := gs_qL (F := F) (z := gv_z) (u := u) (w := gw_wi (gw_wl u 701 0 v.toInt64) 670 0 0) h3 F x1 x2 0 h1 h2 (by omega)
          have ev : v' = some v := by
            rw [q1] at q3
            cases v' with
            | none => cases q3
            | some v' => cases q3; rfl
          subst ev
          refine ⟨0, v, gw_wl u 701 0 v.toInt64, gw_wi (gw_wl u 701 0 v.toInt64) 670 0 0, lw_quotient_v (D.trans q1) gv_zo, ?_, rfl, fun _ => lgc_zero.mpr rfl, hw.off gv_off_thr1, gv_off_thr1⟩
          show gf_Model_quotient F gv_z _ 670 x1 x2 x3 = _
          rw [M]
          simp only [gf_nm]
          rw [if_neg c1, if_pos c2]
          exact q4
        | none =>
          obtain ⟨v', q3, q4⟩ := gs_qL (F := F) (z := gv_z) (u := u) (w := gw_wi u 670 0 0) h3 F x1 x2 0 h1 h2 (by omega)
          have ev : v' = none := by
            rw [q1] at q3
            cases v' with
            | none => rfl
            | some v' => cases q3
          subst ev
          refine ⟨2, 0, u, gw_wi (gw_wi u 670 0 0) 670 0 2, lw_quotient_3 (D.trans q1), ?_, rfl, fun q => absurd q (by decide), hw.off gv_off_thr, gv_off_thr⟩
          show gf_Model_quotient F gv_z _ 670 x1 x2 x3 = _
          rw [M]
          simp only [gf_nm]
          rw [if_neg c1, if_pos c2]
          exact q4
      · have h3 : x3.toInt < 0 := by
          have : ¬ (0 : Int32).toInt ≤ x3.toInt := fun q => c3 (i32_le.mpr q)
          omega
        rw [if_neg c1, if_pos c2, if_neg c3] at D
        refine ⟨2, 0, u, gw_wi (gw_wi u 670 0 0) 670 0 2, lw_quotient_3 D, ?_, rfl, fun q => absurd q (by decide), hw.off gv_off_thr, gv_off_thr⟩
        show gf_Model_quotient F gv_z _ 670 x1 x2 x3 = _
        rw [M]
        simp only [gf_nm]
        rw [if_neg c1, if_pos c2]
        obtain ⟨f, rfl⟩ : ∃ g, F = g + 1 := ⟨F - 1, by omega⟩
        show gf_Model_quotient_S30 (f + 1) gv_z (gf_Model_quotient_L30 (f + 1) gv_z f) _ 670 x3 x1 x2 0 = _
        unfold gf_Model_quotient_S30 gf_Model_quotient_b62
        rw [if_pos (i32_le.mpr (by omega)), if_pos (i32_lt.mpr (by omega))]
        rfl
    · rw [if_neg c1, if_neg c2] at D
      refine ⟨1, 0, u, gw_wi (gw_wi u 670 0 0) 670 0 1, lw_quotient_1 D, ?_, rfl, fun q => absurd q (by decide), hw.off gv_off_thr, gv_off_thr⟩
      show gf_Model_quotient F gv_z _ 670 x1 x2 x3 = _
      rw [M]
      simp only [gf_nm]
      rw [if_neg c1, if_neg c2]
      rfl
