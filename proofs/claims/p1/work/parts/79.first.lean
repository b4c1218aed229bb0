/-! calls that are refused, and the first call on a fresh desk -/
def gv_chk {β : Type} (A : Option (Int32 × gw_St)) (B : gw_St → Option (β × gw_St)) (c : gw_St → β → Bool) : Bool := match A with
  | none => false
  | some (k, u1) => match B u1 with
    | none => false
    | some (a, u2) => decide (u2.1 670 0 = k) && (decide (k ≠ 0) || c u2 a)
theorem gv_chk_ok {β : Type} {A : Option (Int32 × gw_St)} {B : gw_St → Option (β × gw_St)} {c : gw_St → β → Bool} (h : gv_chk A B c = true) : ∃ k a u1 u2, A = some (k, u1) ∧ B u1 = some (a, u2) ∧ u2.1 670 0 = k ∧ (k = 0 → c u2 a = true) ∧ True := by
  unfold gv_chk at h
  split at h
  · exact absurd h (by decide)
  · next k u1 =>
    split at h
    · exact absurd h (by decide)
    · next a u2 hb =>
      simp only [Bool.and_eq_true, Bool.or_eq_true, decide_eq_true_eq] at h
      exact ⟨k, a, u1, u2, rfl, hb, h.1, fun q => h.2.resolve_left (fun n => n q), trivial⟩
def gv_chk2 {β : Type} [DecidableEq β] (A : Option (β × gw_St)) (B : gw_St → Option (β × gw_St)) : Bool := match A with
  | none => false
  | some (k, u1) => match B u1 with
    | none => false
    | some (a, _) => decide (a = k)
theorem gv_chk2_ok {β : Type} [DecidableEq β] {A : Option (β × gw_St)} {B : gw_St → Option (β × gw_St)} (h : gv_chk2 A B = true) : ∃ a u1 u2, A = some (a, u1) ∧ B u1 = some (a, u2) ∧ True := by
  unfold gv_chk2 at h
  split at h
  · exact absurd h (by decide)
  · next k u1 =>
    split at h
    · exact absurd h (by decide)
    · next a u2 hb =>
      have e : a = k := of_decide_eq_true h
      exact ⟨k, u1, u2, rfl, by rw [hb, e], trivial⟩
theorem gv_r670_26 : gv_u.2.2 670 26 = 680 := by decide +kernel
theorem gs_needDial {F : Nat} {u : gw_St} {x : Int32} (hr : gv_Rf u) : gf_Desk_needDial F gv_z u 0 x = some (if 0 ≤ x.toInt ∧ x.toInt < 12 ∧ u.1 57 x.toNatClampNeg ≠ -1 then .inl () else .inr 3, u) := by
  have e0 : (0 : Int32).toInt = 0 := rfl
  have e12 : (12 : Int32).toInt = 12 := rfl
  show gf_Desk_needDial_b0 F gv_z u 0 x = _
  unfold gf_Desk_needDial_b0 gf_Desk_needDial_b20
  by_cases h1 : x < 0
  · have h1' := i32_lt.mp h1
    rw [if_pos h1, if_neg (by omega)]
  · have h1' : ¬ x.toInt < 0 := fun q => h1 (i32_lt.mpr q)
    rw [if_neg h1]
    by_cases h2 : 12 ≤ x
    · have h2' := i32_le.mp h2
      rw [if_pos h2, if_neg (by omega)]
    · have h2' : ¬ (12 : Int32).toInt ≤ x.toInt := fun q => h2 (i32_le.mpr q)
      rw [if_neg h2, hr.get rfl gv_r0_4]
      simp only [gf_nn]
      have hx : x.toNatClampNeg < 12 := by
        have : x.toNatClampNeg = x.toInt.toNat := rfl
        omega
      rw [if_neg (fun q : x < 0 ∨ gv_z.2.2 57 ≤ x.toNatClampNeg => by rw [gv_l57] at q; rcases q with q | q; exact h1 q; omega)]
      by_cases h3 : u.1 57 x.toNatClampNeg = -1
      · rw [if_pos h3, if_neg (fun q => q.2.2 h3)]
      · rw [if_neg h3, if_pos ⟨by omega, by omega, h3⟩]
theorem gs_isDial {F : Nat} {u : gw_St} {x : Int32} (hr : gv_Rf u) : gf_Model_isDial F gv_z u 670 x = some (if 0 ≤ x.toInt ∧ x.toInt < 12 ∧ ¬ u.1 679 x.toNatClampNeg < 0 then 1 else 0, u) := by
  have e0 : (0 : Int32).toInt = 0 := rfl
  have e11 : (11 : Int32).toInt = 11 := rfl
  show gf_Model_isDial_b0 F gv_z u 670 x = _
  unfold gf_Model_isDial_b0 gf_Model_isDial_b23 gf_Model_isDial_b24
  rw [gs_within]
  simp only [gf_cl]
  by_cases h1 : (0 : Int32).toInt ≤ x.toInt ∧ x.toInt ≤ (11 : Int32).toInt
  · rw [if_pos h1, if_neg (by decide), hr.get rfl gv_r670_26]
    simp only [gf_nn]
    have hx : x.toNatClampNeg < 12 := by
      have : x.toNatClampNeg = x.toInt.toNat := rfl
      omega
    rw [if_neg (fun q : x < 0 ∨ gv_z.2.2 679 ≤ x.toNatClampNeg => by rw [gv_l679] at q; rcases q with q | q; (have := i32_lt.mp q; omega); omega)]
    by_cases h3 : u.1 679 x.toNatClampNeg < 0
    · rw [if_pos h3, if_neg (by decide), if_neg (fun q => q.2.2 h3)]
    · rw [if_neg h3, if_neg (by decide), if_pos ⟨by omega, by omega, h3⟩]
  · rw [if_neg h1, if_pos rfl, if_neg (by decide), if_neg (by omega)]
theorem gf1_want {F : Nat} (hF : 10 ≤ F) {u : gw_St} (hr : gv_Rf u) (x1 x2 s lo hi : Int32) : ∃ k a u1 u2, gf_Law_want F gv_z u 0 x1 x2 s lo hi 701 = some (k, u1) ∧ gf_Model_want F gv_z u1 670 x1 x2 s lo hi = some (a, u2) ∧ u2.1 670 0 = k ∧ (k = 0 → lg_cmp (u2.2.1 701 0) a.toInt64 = 0) ∧ True := by
  by_cases c : 1 ≤ x1.toInt ∧ 1 ≤ x2.toInt ∧ gv_al s lo hi
  · obtain ⟨c1, c2, c3⟩ := c
    have c4 := c3
    unfold gv_al at c4
    obtain ⟨b1, b2, b3, b4, b5, b6, b7⟩ := c4
    have es : s = Int32.ofNat s.toInt.toNat := i32_ext (by rw [i32_nat (by omega)]; omega)
    obtain ⟨S, hS⟩ : ∃ S : Nat, s = Int32.ofNat S ∧ S < 5 := ⟨s.toInt.toNat, es, by omega⟩
    obtain ⟨es, hS⟩ := hS
    subst es
    have hn : (((hi.toInt - lo.toInt + 1).toNat : Nat) : Int) = hi.toInt - lo.toInt + 1 := by omega
    obtain ⟨w, a1, a2⟩ := gs_begin hF (z := gv_z) (u := u) (x1 := x1) (x2 := x2) c3 hS hn
    refine ⟨_, _, _, _, lw_want_v (gs_Dwant1 hr c1 c2 c3 a1) gv_zo, gs_Mwant1 c1 c2 c3 hS hn, ?_, fun _ => ?_, trivial⟩
    · rfl
    · exact lgc_zero.mpr rfl
  · exact ⟨_, _, _, _, lw_want_1 (gs_Dwant0 c), gs_Mwant0 c, rfl, fun q => absurd q (by decide), trivial⟩
theorem gs_needBest0 {F : Nat} {z : gw_Sh} {u : gw_St} (hr : gv_Rf u) (h : u.1 1 9 = 0) : gf_Desk_needBestTrain F z u 0 = some (.inr 2, u) := by
  show gf_Desk_needBestTrain_b0 F z u 0 = _
  unfold gf_Desk_needBestTrain_b0 gf_Desk_needBestTrain_b20
  rw [hr.get rfl gv_r0_0]
  simp only [gf_nn]
  have e : gf_Trains_hasTask F z u 1 = some (0, u) := by
    show gf_Trains_hasTask_b0 F z u 1 = _
    unfold gf_Trains_hasTask_b0 gf_Trains_hasTask_b12
    rw [h, if_pos (by decide), if_neg (by decide)]
  rw [e]
  rfl
theorem gs_isOver0 {F : Nat} {z : gw_Sh} {u : gw_St} (h : u.1 670 1 = 0) : gf_Model_isOver F z u 670 = some (0, u) := by
  show gf_Model_isOver_b0 F z u 670 = _
  unfold gf_Model_isOver_b0 gf_Model_isOver_b18 gf_Model_isOver_b19
  rw [h, if_pos rfl, if_neg (by decide)]
theorem gs_tooth0 {F : Nat} {z : gw_Sh} {u : gw_St} (hr : gv_Rf u) (h1 : u.1 1 9 = 0) (h2 : u.1 670 1 = 0) (x y : Int32) : gf_Law_tooth F z u 0 x y 701 = some (1, u) ∧ gf_Model_tooth F z u 670 x y = some (0, gw_wi (gw_wi u 670 0 0) 670 0 1) := by
  constructor
  · apply lw_tooth_2
    show gf_Desk_tooth_b0 F z u 0 x y = _
    unfold gf_Desk_tooth_b0
    rw [gs_needBest0 hr h1]
    rfl
  · show gf_Model_tooth_b0 F z u 670 x y = _
    unfold gf_Model_tooth_b0
    simp only [gf_nm]
    rw [gs_isOver0 (u := gw_wi u 670 0 0) h2]
    rfl
theorem gs_error0 {F : Nat} {z : gw_Sh} {u : gw_St} (hr : gv_Rf u) (h1 : u.1 1 9 = 0) (h2 : u.1 670 1 = 0) (x : Int32) : gf_Law_error F z u 0 x 701 = some (1, u) ∧ ∃ a, gf_Model_error F z u 670 x = some (a, gw_wi (gw_wi u 670 0 0) 670 0 1) := by
  constructor
  · apply lw_error_2
    show gf_Desk_error_b0 F z u 0 x = _
    unfold gf_Desk_error_b0
    rw [gs_needBest0 hr h1]
    rfl
  · refine ⟨(0 : Int32).toInt64, ?_⟩
    show gf_Model_error_b0 F z u 670 x = _
    unfold gf_Model_error_b0
    simp only [gf_nm]
    rw [gs_isOver0 (u := gw_wi u 670 0 0) h2]
    rfl
theorem gv_f19 : gv_u.1 1 9 = 0 := by decide +kernel
theorem gv_f6701 : gv_u.1 670 1 = 0 := by decide +kernel
theorem gf1_search {F : Nat} {u : gw_St} (hr : gv_Rf u) (gv_f19 : u.1 1 9 = 0) (gv_f6701 : u.1 670 1 = 0) (x : Int32) : ∃ k a u1 u2, gf_Law_search F gv_z u 0 x 701 = some (k, u1) ∧ gf_Model_search F gv_z u1 670 x = some (a, u2) ∧ u2.1 670 0 = k ∧ (k = 0 → u2.2.1 701 0 = if a = 0 then 0 else 1) ∧ True := by
  have e1 : (1 : Int32).toInt = 1 := rfl
  have eM : (1000000 : Int32).toInt = 1000000 := rfl
  have hM : gf_Model_search F gv_z u 670 x = some (0, gw_wi (gw_wi u 670 0 0) 670 0 (if 1 ≤ x.toInt ∧ x.toInt ≤ 1000000 then 2 else 1)) := by
    show gf_Model_search_b0 F gv_z u 670 x = _
    unfold gf_Model_search_b0
    simp only [gf_nm]
    rw [gs_within]
    by_cases c : 1 ≤ x.toInt ∧ x.toInt ≤ 1000000
    · rw [if_pos (show (1 : Int32).toInt ≤ x.toInt ∧ x.toInt ≤ (1000000 : Int32).toInt by omega), if_pos c]
      simp only [gf_cl]
      rw [if_neg (by decide), if_pos (show (gw_wi u 670 0 0).1 670 1 = 0 from gv_f6701)]
      rfl
    · rw [if_neg (show ¬ ((1 : Int32).toInt ≤ x.toInt ∧ x.toInt ≤ (1000000 : Int32).toInt) by omega), if_neg c]
      rfl
  have hD : gf_Desk_search F gv_z u 0 x = some (.inr (if 1 ≤ x.toInt ∧ x.toInt ≤ 1000000 then 2 else 1), u) := by
    show gf_Desk_search_b0 F gv_z u 0 x = _
    unfold gf_Desk_search_b0 gf_Desk_search_b11
    by_cases c1 : x < 1
    · have := i32_lt.mp c1
      rw [if_pos c1, if_neg (by omega)]
    have c1' : ¬ x.toInt < (1 : Int32).toInt := fun q => c1 (i32_lt.mpr q)
    rw [if_neg c1]
    by_cases c2 : x ≤ 1000000
    · have := i32_le.mp c2
      rw [if_pos c2, if_pos (by omega), hr.get rfl gv_r0_0]
      simp only [gf_nn]
      have e : gf_Trains_hasTask F gv_z u 1 = some (0, u) := by
        show gf_Trains_hasTask_b0 F gv_z u 1 = _
        unfold gf_Trains_hasTask_b0 gf_Trains_hasTask_b12
        rw [gv_f19, if_pos (by decide), if_neg (by decide)]
      rw [e]
      rfl
    · have c2' : ¬ x.toInt ≤ (1000000 : Int32).toInt := fun q => c2 (i32_le.mpr q)
      rw [if_neg c2, if_neg (by omega)]
  by_cases c : 1 ≤ x.toInt ∧ x.toInt ≤ 1000000
  · rw [if_pos c] at hM hD
    exact ⟨_, _, _, _, lw_search_2 hD, hM, rfl, fun q => absurd q (by decide), trivial⟩
  · rw [if_neg c] at hM hD
    exact ⟨_, _, _, _, lw_search_1 hD, hM, rfl, fun q => absurd q (by decide), trivial⟩
theorem gf1_solve {F : Nat} {u : gw_St} (hr : gv_Rf u) (h1 : u.1 6 4 = -1) (h2 : u.1 670 20 = -1) : ∃ k a u1 u2, gf_Law_solve F gv_z u 0 701 = some (k, u1) ∧ gf_Model_solve F gv_z u1 670 = some (a, u2) ∧ u2.1 670 0 = k ∧ (k = 0 → lg_cmp (u2.2.1 701 0) a.toInt64 = 0) ∧ True := by
  have hD : gf_Desk_solve F gv_z u 0 = some (.inr 2, u) := by
    show gf_Desk_solve_b0 F gv_z u 0 = _
    unfold gf_Desk_solve_b0
    rw [hr.get rfl gv_r0_1]
    simp only [gf_nn]
    rw [if_pos h1]
  have hM : gf_Model_solve F gv_z u 670 = some (0, gw_wi (gw_wi u 670 0 0) 670 0 1) := by
    show gf_Model_solve_b0 F gv_z u 670 = _
    unfold gf_Model_solve_b0
    simp only [gf_nm]
    rw [show (gw_wi u 670 0 0).1 670 20 = -1 from h2, if_neg (by decide)]
    rfl
  exact ⟨_, _, _, _, lw_solve_2 hD, hM, rfl, fun q => absurd q (by decide), trivial⟩
theorem gf1_speed {F : Nat} {u : gw_St} (hr : gv_Rf u) {r : Nat} (hw : gv_Wk u 0 r) (x y i : Int32) : ∃ k a u1 u2, gf_Law_speed F gv_z u 0 x y i 701 = some (k, u1) ∧ gf_Model_speed F gv_z u1 670 x y i = some (a, u2) ∧ u2.1 670 0 = k ∧ (k = 0 → lg_cmp (u2.2.1 701 0) a.toInt64 = 0) ∧ True := by
  have hD : gf_Desk_speed F gv_z u 0 x y i = some (.inr 3, u) := by
    show gf_Desk_speed_b0 F gv_z u 0 x y i = _
    unfold gf_Desk_speed_b0
    rw [gs_needGear hr hw.1 hw.2.2.1, if_neg (by omega)]
    rfl
  have hM : gf_Model_speed F gv_z u 670 x y i = some (0, gw_wi (gw_wi u 670 0 0) 670 0 1) := by
    show gf_Model_speed_b0 F gv_z u 670 x y i = _
    unfold gf_Model_speed_b0
    simp only [gf_nm]
    rw [gs_isGear (n := 0) (by omega) (show (gw_wi u 670 0 0).1 670 18 = Int32.ofNat 0 from hw.2.2.2.1), if_neg (by omega)]
    rfl
  exact ⟨_, _, _, _, lw_speed_3 hD, hM, rfl, fun q => absurd q (by decide), trivial⟩
theorem gv_f57 {u : gw_St} (hl : gv_Dl u 0) (x : Int32) : 0 ≤ x.toInt ∧ x.toInt < 12 ∧ u.1 57 x.toNatClampNeg ≠ -1 → False := by
  intro h
  have hx : x.toNatClampNeg < 12 := by
    have : x.toNatClampNeg = x.toInt.toNat := rfl
    omega
  have := hl _ hx
  exact h.2.2 (i32_ext (by have e : (-1 : Int32).toInt = -1 := rfl; omega))
theorem gv_f679 {u : gw_St} (hl : gv_Dl u 0) (x : Int32) : 0 ≤ x.toInt ∧ x.toInt < 12 ∧ ¬ (gw_wi u 670 0 0).1 679 x.toNatClampNeg < 0 → False := by
  intro h
  have hx : x.toNatClampNeg < 12 := by
    have : x.toNatClampNeg = x.toInt.toNat := rfl
    omega
  have := hl _ hx
  refine h.2.2 ?_
  show u.1 679 x.toNatClampNeg < 0
  rw [this.1]
  refine i32_lt.mpr ?_
  have e : (0 : Int32).toInt = 0 := rfl
  omega
theorem gf1_position {F : Nat} {u : gw_St} (hr : gv_Rf u) (hl : gv_Dl u 0) (x y i : Int32) : ∃ k a u1 u2, gf_Law_position F gv_z u 0 x y i 701 = some (k, u1) ∧ gf_Model_position F gv_z u1 670 x y i = some (a, u2) ∧ u2.1 670 0 = k ∧ (k = 0 → lg_cmp (u2.2.1 701 0) a.toInt64 = 0) ∧ True := by
  have hD : gf_Desk_position F gv_z u 0 x y i = some (.inr 3, u) := by
    show gf_Desk_position_b0 F gv_z u 0 x y i = _
    unfold gf_Desk_position_b0
    rw [gs_needDial hr, if_neg (fun q => gv_f57 hl x q)]
    rfl
  have hM : gf_Model_position F gv_z u 670 x y i = some (0, gw_wi (gw_wi u 670 0 0) 670 0 1) := by
    show gf_Model_position_b0 F gv_z u 670 x y i = _
    unfold gf_Model_position_b0
    simp only [gf_nm]
    rw [gs_isDial (u := gw_wi u 670 0 0) (hr.eq rfl), if_neg (fun q => gv_f679 hl x q)]
    rfl
  exact ⟨_, _, _, _, lw_position_3 hD, hM, rfl, fun q => absurd q (by decide), trivial⟩
theorem gf1_meet {F : Nat} {u : gw_St} (hr : gv_Rf u) (hl : gv_Dl u 0) (x y : Int32) : ∃ k a u1 u2, gf_Law_meet F gv_z u 0 x y 701 = some (k, u1) ∧ gf_Model_meet F gv_z u1 670 x y = some (a, u2) ∧ u2.1 670 0 = k ∧ (k = 0 → u2.2.1 701 0 = if a = 0 then 0 else 1) ∧ True := by
  have hD : gf_Desk_meet F gv_z u 0 x y = some (.inr 3, u) := by
    show gf_Desk_meet_b0 F gv_z u 0 x y = _
    unfold gf_Desk_meet_b0
    rw [gs_needDial hr, if_neg (fun q => gv_f57 hl x q)]
    rfl
  have hM : gf_Model_meet F gv_z u 670 x y = some (0, gw_wi (gw_wi u 670 0 0) 670 0 1) := by
    show gf_Model_meet_b0 F gv_z u 670 x y = _
    unfold gf_Model_meet_b0
    simp only [gf_nm]
    rw [gs_isDial (u := gw_wi u 670 0 0) (hr.eq rfl), if_neg (fun q => gv_f679 hl x q)]
    rfl
  exact ⟨_, _, _, _, lw_meet_3 hD, hM, rfl, fun q => absurd q (by decide), trivial⟩
theorem gf1_back_d : gv_chk (gf_Law_back gv_F gv_z gv_u 0 701) (fun w => gf_Model_back gv_F gv_z w 670) (fun w a => decide (w.2.1 701 0 = if a = 0 then 0 else 1)) = true := by decide +kernel
theorem gf1_clear_d : gv_chk2 (gf_Desk_clear gv_F gv_z gv_u 0) (fun w => gf_Model_clear gv_F gv_z w 670) = true := by decide +kernel
theorem gf1_result_d : ∀ p, p < 2 → ∀ i, i < 8 → gv_chk (gf_Law_result gv_F gv_z gv_u 0 (Int32.ofNat p) (Int32.ofNat i) 701) (fun w => gf_Model_result gv_F gv_z w 670 (Int32.ofNat p) (Int32.ofNat i)) (fun w a => decide (lg_cmp (w.2.1 701 0) a.toInt64 = 0)) = true := by decide +kernel
theorem gf1_count_d : ∀ p, p < 5 → gv_chk2 (gf_Desk_count gv_F gv_z gv_u 0 (Int32.ofNat p)) (fun w => gf_Model_count gv_F gv_z w 670 (Int32.ofNat p)) = true := by decide +kernel
theorem gs_result0 {F : Nat} {z : gw_Sh} {u : gw_St} {x y : Int32} (c : ¬ (0 ≤ x.toInt ∧ x.toInt ≤ 1 ∧ 0 ≤ y.toInt ∧ y.toInt ≤ 7)) : gf_Law_result F z u 0 x y 701 = some (1, u) ∧ gf_Model_result F z u 670 x y = some (0, gw_wi (gw_wi u 670 0 0) 670 0 1) := by
  have e0 : (0 : Int32).toInt = 0 := rfl
  have e1 : (1 : Int32).toInt = 1 := rfl
  have e7 : (7 : Int32).toInt = 7 := rfl
  have e8 : (8 : Int32).toInt = 8 := rfl
  constructor
  · apply lw_result_3
    show gf_Desk_result_b0 F z u 0 x y = _
    unfold gf_Desk_result_b0 gf_Desk_result_b19
    by_cases c1 : x < 0
    · rw [if_pos c1]
    have c1' : ¬ x.toInt < (0 : Int32).toInt := fun q => c1 (i32_lt.mpr q)
    rw [if_neg c1]
    by_cases c2 : 1 < x
    · rw [if_pos c2]
    have c2' : ¬ (1 : Int32).toInt < x.toInt := fun q => c2 (i32_lt.mpr q)
    rw [if_neg c2]
    by_cases c3 : y < 0
    · rw [if_pos c3]
    have c3' : ¬ y.toInt < (0 : Int32).toInt := fun q => c3 (i32_lt.mpr q)
    rw [if_neg c3]
    by_cases c4 : y < 8
    · have := i32_lt.mp c4
      omega
    rw [if_neg c4]
  · show gf_Model_result_b0 F z u 670 x y = _
    unfold gf_Model_result_b0 gf_Model_result_b24
    simp only [gf_nm]
    rw [gs_within]
    by_cases c1 : (0 : Int32).toInt ≤ x.toInt ∧ x.toInt ≤ (1 : Int32).toInt
    · rw [if_pos c1]
      simp only [gf_cl]
      rw [if_neg (by decide), gs_within, if_neg (show ¬ ((0 : Int32).toInt ≤ y.toInt ∧ y.toInt ≤ (7 : Int32).toInt) by omega)]
      rfl
    · rw [if_neg c1]
      rfl
theorem gs_count0 {F : Nat} {z : gw_Sh} {u : gw_St} {x : Int32} (c : ¬ (0 ≤ x.toInt ∧ x.toInt ≤ 4)) : gf_Desk_count F z u 0 x = some (-1, u) ∧ gf_Model_count F z u 670 x = some (-1, gw_wi u 670 0 0) := by
  have e0 : (0 : Int32).toInt = 0 := rfl
  have e4 : (4 : Int32).toInt = 4 := rfl
  constructor
  · show gf_Desk_count_b0 F z u 0 x = _
    unfold gf_Desk_count_b0
    rw [if_neg (fun q : x = 0 => c (by rw [q]; decide)), if_neg (fun q : x = 1 => c (by rw [q]; decide)), if_neg (fun q : x = 2 => c (by rw [q]; decide)), if_neg (fun q : x = 3 => c (by rw [q]; decide)), if_neg (fun q : x = 4 => c (by rw [q]; decide))]
  · show gf_Model_count_b0 F z u 670 x = _
    unfold gf_Model_count_b0
    simp only [gf_nm]
    rw [gs_within, if_neg (show ¬ ((0 : Int32).toInt ≤ x.toInt ∧ x.toInt ≤ (4 : Int32).toInt) by omega)]
    rfl
theorem gf1_result (x y : Int32) : ∃ k a u1 u2, gf_Law_result gv_F gv_z gv_u 0 x y 701 = some (k, u1) ∧ gf_Model_result gv_F gv_z u1 670 x y = some (a, u2) ∧ u2.1 670 0 = k ∧ (k = 0 → lg_cmp (u2.2.1 701 0) a.toInt64 = 0) ∧ True := by
  by_cases c : 0 ≤ x.toInt ∧ x.toInt ≤ 1 ∧ 0 ≤ y.toInt ∧ y.toInt ≤ 7
  · have ex : x = Int32.ofNat x.toInt.toNat := i32_ext (by rw [i32_nat (by omega)]; omega)
    have ey : y = Int32.ofNat y.toInt.toNat := i32_ext (by rw [i32_nat (by omega)]; omega)
    have h := gf1_result_d x.toInt.toNat (by omega) y.toInt.toNat (by omega)
    rw [← ex, ← ey] at h
    obtain ⟨k, a, u1, u2, h1, h2, h3, h4, h5⟩ := gv_chk_ok h
    exact ⟨k, a, u1, u2, h1, h2, h3, fun q => of_decide_eq_true (h4 q), h5⟩
  · have h := gs_result0 (F := gv_F) (z := gv_z) (u := gv_u) c
    exact ⟨_, _, _, _, h.1, h.2, rfl, fun q => absurd q (by decide), trivial⟩
theorem gf1_count (x : Int32) : ∃ a u1 u2, gf_Desk_count gv_F gv_z gv_u 0 x = some (a, u1) ∧ gf_Model_count gv_F gv_z u1 670 x = some (a, u2) ∧ True := by
  by_cases c : 0 ≤ x.toInt ∧ x.toInt ≤ 4
  · have ex : x = Int32.ofNat x.toInt.toNat := i32_ext (by rw [i32_nat (by omega)]; omega)
    have h := gf1_count_d x.toInt.toNat (by omega)
    rw [← ex] at h
    exact gv_chk2_ok h
  · have h := gs_count0 (F := gv_F) (z := gv_z) (u := gv_u) c
    exact ⟨_, _, _, h.1, h.2, trivial⟩
theorem gv_Op.t {β : Type} {S : Nat → Nat → Bool} {u : gw_St} {n r : Nat} {lw : Option (Int32 × gw_St)} {md : gw_St → Option (β × gw_St)} {cmp : gw_St → β → Prop} (h : gv_Op S u n r lw md cmp) : ∃ k a u1 u2, lw = some (k, u1) ∧ md u1 = some (a, u2) ∧ u2.1 670 0 = k ∧ (k = 0 → cmp u2 a) ∧ True := by
  obtain ⟨k, a, u1, u2, h1, h2, h3, h4, _⟩ := h
  exact ⟨k, a, u1, u2, h1, h2, h3, h4, trivial⟩
theorem gv_F32 : 4294967296 ≤ gv_F := by decide
theorem gv_first (xs : Nat → Int32) : gv_R gv_F xs 6 gv_z gv_u (fun _ => True) 0 := by
  have hL : 6 ≤ 3072 := by omega
  have hi : 0 + 6 ≤ 6 := by omega
  have hF := gv_F32
  rcases gv_32 (xs 0) with h | h | h | h | h | h | h | h | h | h | h | h | h | h | h | h | h | h | h | h | h | h | h
  · exact gv_op0 hL hi gv_zo h (gf1_want (by omega) gv_Rf0 _ _ _ _ _)
  · exact gv_op1 hL hi gv_zo h (gf1_search gv_Rf0 gv_f19 gv_f6701 _)
  · have q := gs_tooth0 (F := gv_F) (z := gv_z) gv_Rf0 gv_f19 gv_f6701 (xs 1) (xs 2)
    exact gv_op2 hL hi gv_zo h ⟨_, _, _, _, q.1, q.2, rfl, fun q => absurd q (by decide), trivial⟩
  · have q := gs_error0 (F := gv_F) (z := gv_z) gv_Rf0 gv_f19 gv_f6701 (xs 1)
    exact gv_op3 hL hi gv_zo h ⟨_, _, _, _, q.1, q.2.choose_spec, rfl, fun q => absurd q (by decide), trivial⟩
  · exact gv_op4 hL hi gv_zo h (gs_quotient hF gv_Wk0 _ _ _).t
  · obtain ⟨n', _, k, a, u1, u2, h1, h2, h3, h4, _⟩ := gs_gear (F := gv_F) gv_Rf0 gv_Wk0 (xs 1)
    exact gv_op5 hL hi gv_zo h ⟨k, a, u1, u2, h1, h2, h3, h4, trivial⟩
  · exact gv_op6 hL hi gv_zo h (gs_mesh gv_Rf0 gv_Wk0 _ _).choose_spec.t
  · exact gv_op7 hL hi gv_zo h (gs_inner gv_Rf0 gv_Wk0 _ _).choose_spec.t
  · exact gv_op8 hL hi gv_zo h (gs_arbor gv_Rf0 gv_Wk0 _ _).choose_spec.t
  · exact gv_op9 hL hi gv_zo h (gs_planet gv_Rf0 gv_Wk0 _ _ _).choose_spec.t
  · exact gv_op10 hL hi gv_zo h (gs_remove (by omega) gv_Rf0 gv_Wk0 _).choose_spec.t
  · exact gv_op11 hL hi gv_zo h (gs_relation gv_Rf0 gv_Wk0 _ _).t
  · exact gv_op12 hL hi gv_zo h (gs_crank gv_Rf0 gv_Wk0 _).t
  · exact gv_op13 hL hi gv_zo h (gf1_solve gv_Rf0 (by decide +kernel) (by decide +kernel))
  · exact gv_op14 hL hi gv_zo h (gf1_speed gv_Rf0 gv_Wk0 _ _ _)
  · obtain ⟨k, a, u1, u2, h1, h2, h3, h4, _⟩ := gs_dial (F := gv_F) gv_Rf0 gv_Wk0 gv_Dl0 (xs 1) (xs 2) (xs 3)
    exact gv_op15 hL hi gv_zo h ⟨k, a, u1, u2, h1, h2, h3, h4, trivial⟩
  · exact gv_op16 hL hi gv_zo h (gf1_position gv_Rf0 gv_Dl0 _ _ _)
  · exact gv_op17 hL hi gv_zo h (gf1_meet gv_Rf0 gv_Dl0 _ _)
  · obtain ⟨k, a, u1, u2, h1, h2, h3, h4, h5⟩ := gv_chk_ok gf1_back_d
    exact gv_op18 hL hi gv_zo h ⟨k, a, u1, u2, h1, h2, h3, fun q => of_decide_eq_true (h4 q), h5⟩
  · exact gv_op19 hL hi gv_zo h (gf1_result _ _)
  · exact gv_op20 hL hi gv_zo h (gv_chk2_ok gf1_clear_d)
  · exact gv_op21 hL hi gv_zo h (gf1_count _)
  · exact gv_opd hL hi h.1 h.2.1 h.2.2.1 h.2.2.2.1 h.2.2.2.2.1 h.2.2.2.2.2.1 h.2.2.2.2.2.2.1 h.2.2.2.2.2.2.2.1 h.2.2.2.2.2.2.2.2.1 h.2.2.2.2.2.2.2.2.2.1 h.2.2.2.2.2.2.2.2.2.2.1 h.2.2.2.2.2.2.2.2.2.2.2.1 h.2.2.2.2.2.2.2.2.2.2.2.2.1 h.2.2.2.2.2.2.2.2.2.2.2.2.2.1 h.2.2.2.2.2.2.2.2.2.2.2.2.2.2.1 h.2.2.2.2.2.2.2.2.2.2.2.2.2.2.2.1 h.2.2.2.2.2.2.2.2.2.2.2.2.2.2.2.2.1 h.2.2.2.2.2.2.2.2.2.2.2.2.2.2.2.2.2.1 h.2.2.2.2.2.2.2.2.2.2.2.2.2.2.2.2.2.2.1 h.2.2.2.2.2.2.2.2.2.2.2.2.2.2.2.2.2.2.2.1 h.2.2.2.2.2.2.2.2.2.2.2.2.2.2.2.2.2.2.2.2.1 h.2.2.2.2.2.2.2.2.2.2.2.2.2.2.2.2.2.2.2.2.2 trivial
theorem gv_all6 (xs : Nat → Int32) (L : Nat) (hL : L ≤ 6) : gf_law gv_F xs L = some 1 := by
  rw [gv_law0]
  exact gv_one hL (fun e => by subst e; exact gv_first xs)
