/-! dial -/
def gv_Dl (u : gw_St) (n : Nat) : Prop := ∀ d, d < 12 → u.1 679 d = u.1 57 d ∧ u.1 680 d = u.1 58 d ∧ -1 ≤ (u.1 57 d).toInt ∧ (u.1 57 d).toInt < n ∧ ((u.1 57 d).toInt ≠ -1 → 1 ≤ (u.1 58 d).toInt ∧ (u.1 58 d).toInt ≤ 100000)
theorem gv_r0_4 : gv_u.2.2 0 4 = 58 := by decide +kernel
theorem gv_r0_5 : gv_u.2.2 0 5 = 59 := by decide +kernel
theorem gv_rm26 : gv_u.2.2 670 26 = 680 := by decide +kernel
theorem gv_rm27 : gv_u.2.2 670 27 = 681 := by decide +kernel
theorem gv_l57 : gv_z.2.2 57 = 12 := by decide +kernel
theorem gv_l58 : gv_z.2.2 58 = 12 := by decide +kernel
theorem gv_l679 : gv_z.2.2 679 = 12 := by decide +kernel
theorem gv_l680 : gv_z.2.2 680 = 12 := by decide +kernel
abbrev gv_dv (y : Int32) : Prop := 1 ≤ y.toInt ∧ y.toInt ≤ 100000
theorem gs_Ddial {F : Nat} {u : gw_St} {n r : Nat} {d g y : Int32} (hr : gv_Rf u) (hw : gv_Wk u n r) : gf_Desk_dial F gv_z u 0 d g y = if gv_in 12 d ∧ gv_in n g then (if gv_dv y then some (.inl (u.1 57 d.toNatClampNeg), gw_wi (gw_wi u 57 d.toNatClampNeg g) 58 d.toNatClampNeg y) else some (.inr 1, u)) else some (.inr 3, u) := by
  obtain ⟨w1, w2, w3, w4, w5, -⟩ := id hw
  show gf_Desk_dial_b0 F gv_z u 0 d g y = _
  unfold gf_Desk_dial_b0 gf_Desk_dial_b10 gf_Desk_dial_b34
  have e0 : (0 : Int32).toInt = 0 := rfl
  have e1 : (1 : Int32).toInt = 1 := rfl
  have e12 : (12 : Int32).toInt = 12 := rfl
  have em : (100000 : Int32).toInt = 100000 := rfl
  by_cases c1 : d < 0
  · have := i32_lt.mp c1
    rw [if_pos c1, if_neg (by omega)]
  · have c1' : ¬ d.toInt < (0 : Int32).toInt := fun q => c1 (i32_lt.mpr q)
    rw [if_neg c1]
    by_cases c2 : d < 12
    · have := i32_lt.mp c2
      have cd : gv_in 12 d := by omega
      rw [if_pos c2, gs_needGear hr w1 w3]
      by_cases cg : gv_in n g
      · rw [if_pos cg, if_pos ⟨cd, cg⟩]
        simp only [gf_ct]
        by_cases c3 : y < 1
        · have := i32_lt.mp c3
          rw [if_pos c3, if_neg (by omega)]
        · have c3' : ¬ y.toInt < (1 : Int32).toInt := fun q => c3 (i32_lt.mpr q)
          rw [if_neg c3]
          by_cases c4 : y ≤ 100000
          · have := i32_le.mp c4
            have ci : ¬ (d < 0 ∨ 12 ≤ d.toNatClampNeg) := (gv_inx2 cd (Nat.le_refl 12)).2
            rw [if_pos c4, if_pos (show gv_dv y by omega), hr.get rfl gv_r0_4]
            simp only [gf_nn, gf_nm]
            rw [gv_l57, if_neg ci, if_neg ci, show (gw_wi u 57 d.toNatClampNeg g).2.2 0 5 = 59 from hr.get rfl gv_r0_5]
            simp only []
            rw [gv_l58, if_neg ci]
          · have c4' : ¬ y.toInt ≤ (100000 : Int32).toInt := fun q => c4 (i32_le.mpr q)
            rw [if_neg c4, if_neg (show ¬ gv_dv y by omega)]
      · rw [if_neg cg, if_neg (fun q => cg q.2)]
        rfl
    · have c2' : ¬ d.toInt < (12 : Int32).toInt := fun q => c2 (i32_lt.mpr q)
      rw [if_neg c2, if_neg (by omega)]
theorem gs_Mdial {F : Nat} {w : gw_St} {n : Nat} {d g y : Int32} (hr : gv_Rf w) (hn : n ≤ 60) (h : w.1 670 18 = Int32.ofNat n) : gf_Model_dial F gv_z w 670 d g y = if gv_in 12 d ∧ gv_in n g then (if gv_dv y then some (w.1 679 d.toNatClampNeg, gw_wi (gw_wi (gw_wi w 670 0 0) 679 d.toNatClampNeg g) 680 d.toNatClampNeg y) else some (0, gw_wi (gw_wi w 670 0 0) 670 0 2)) else some (0, gw_wi (gw_wi w 670 0 0) 670 0 1) := by
  have h' : (gw_wi w 670 0 0).1 670 18 = Int32.ofNat n := h
  show gf_Model_dial_b0 F gv_z w 670 d g y = _
  unfold gf_Model_dial_b0 gf_Model_dial_b23
  simp only [gf_nm]
  have e0 : (0 : Int32).toInt = 0 := rfl
  have e1 : (1 : Int32).toInt = 1 := rfl
  have e11 : (11 : Int32).toInt = 11 := rfl
  have em : (100000 : Int32).toInt = 100000 := rfl
  rw [gs_within, e0, e11]
  by_cases cd : gv_in 12 d
  · rw [if_pos (show 0 ≤ d.toInt ∧ d.toInt ≤ 11 by omega)]
    simp only [gf_cl]
    rw [if_neg (by decide), gs_isGear hn h']
    by_cases cg : gv_in n g
    · rw [if_pos cg, if_pos ⟨cd, cg⟩]
      simp only []
      rw [if_neg (by decide), gs_within, e1, em]
      by_cases cy : gv_dv y
      · have ci : ¬ (d < 0 ∨ 12 ≤ d.toNatClampNeg) := (gv_inx2 cd (Nat.le_refl 12)).2
        rw [if_pos cy, if_pos cy]
        simp only []
        rw [if_neg (by decide), show (gw_wi w 670 0 0).2.2 670 26 = 680 from hr.get rfl gv_rm26]
        simp only [gf_nn]
        rw [gv_l679, if_neg ci, if_neg ci, show (gw_wi (gw_wi w 670 0 0) 679 d.toNatClampNeg g).2.2 670 27 = 681 from hr.get rfl gv_rm27]
        simp only []
        rw [gv_l680, if_neg ci]
        rfl
      · rw [if_neg cy, if_neg cy]
        rfl
    · rw [if_neg cg, if_neg (fun q => cg q.2)]
      rfl
  · rw [if_neg (show ¬ (0 ≤ d.toInt ∧ d.toInt ≤ 11) by omega), if_neg (fun q => cd q.1)]
    rfl
def gv_S_dial (p k : Nat) : Bool := p == 57 || p == 58 || p == 679 || p == 680 || (p == 670 && k == 0) || (p == 701 && k == 0)
def gv_T_dl (p : Nat) : Bool := p == 57 || p == 58 || p == 679 || p == 680
theorem gv_Dl.same {u w : gw_St} {n m : Nat} (h : gv_Dl u n) (hm : n ≤ m) (e : ∀ p k, gv_T_dl p = true → w.1 p k = u.1 p k) : gv_Dl w m := by
  intro d hd
  rw [e 679 d rfl, e 680 d rfl, e 57 d rfl, e 58 d rfl]
  obtain ⟨a1, a2, a3, a4, a5⟩ := h d hd
  exact ⟨a1, a2, a3, by omega, a5⟩
theorem gs_dial {F : Nat} {u : gw_St} {n r : Nat} (hr : gv_Rf u) (hw : gv_Wk u n r) (hl : gv_Dl u n) (d g y : Int32) : ∃ k a u1 u2, gf_Law_dial F gv_z u 0 d g y 701 = some (k, u1) ∧ gf_Model_dial F gv_z u1 670 d g y = some (a, u2) ∧ u2.1 670 0 = k ∧ (k = 0 → lg_cmp (u2.2.1 701 0) a.toInt64 = 0) ∧ gv_Dl u2 n ∧ gv_off gv_S_dial u u2 := by
  obtain ⟨w1, w2, w3, w4, w5, -⟩ := id hw
  have D := gs_Ddial (F := F) (d := d) (g := g) (y := y) hr hw
  have off : ∀ k : Int32, gv_off gv_S_dial u (gw_wi (gw_wi u 670 0 0) 670 0 k) := fun k => ⟨fun p q hS => by
    simp only [gv_S_dial, Bool.or_eq_false_iff, Bool.and_eq_false_iff, beq_eq_false_iff_ne, ne_eq] at hS
    refine ⟨?_, rfl⟩
    simp only [gw_wi]
    rw [if_neg (by omega), if_neg (by omega)], rfl⟩
  have same : ∀ k : Int32, gv_Dl (gw_wi (gw_wi u 670 0 0) 670 0 k) n := fun k => hl.same (Nat.le_refl _) (fun p q h => by
    simp only [gv_T_dl, Bool.or_eq_true, beq_iff_eq] at h
    simp only [gw_wi]
    rw [if_neg (by omega), if_neg (by omega)])
  by_cases c : gv_in 12 d ∧ gv_in n g
  · rw [if_pos c] at D
    by_cases cy : gv_dv y
    · rw [if_pos cy] at D
      have M := gs_Mdial (F := F) (d := d) (g := g) (y := y) (w := gw_wl (gw_wi (gw_wi u 57 d.toNatClampNeg g) 58 d.toNatClampNeg y) 701 0 (u.1 57 d.toNatClampNeg).toInt64) (hr.eq rfl) w1 w4
      rw [if_pos c, if_pos cy] at M
      have hd := (gv_inx2 c.1 (Nat.le_refl 12)).1
      refine ⟨_, _, _, _, lw_dial_v D gv_zo, M, rfl, fun _ => ?_, fun d' hd' => ?_, ⟨fun p q hS => ?_, rfl⟩⟩
      · show lg_cmp (u.1 57 d.toNatClampNeg).toInt64 (u.1 679 d.toNatClampNeg).toInt64 = 0
        rw [(hl _ hd).1]
        exact lgc_zero.mpr rfl
      · obtain ⟨a1, a2, a3, a4, a5⟩ := hl d' hd'
        by_cases e : d' = d.toNatClampNeg
        · subst e
          simp only [gw_wi, gw_wl]
          simp
          exact ⟨by omega, c.2.2, fun _ => cy⟩
        · simp only [gw_wi, gw_wl]
          simp [e]
          exact ⟨a1, a2, a3, a4, a5⟩
      · simp only [gv_S_dial, Bool.or_eq_false_iff, Bool.and_eq_false_iff, beq_eq_false_iff_ne, ne_eq] at hS
        constructor
        · simp only [gw_wi, gw_wl]
          rw [if_neg (by omega), if_neg (by omega), if_neg (by omega), if_neg (by omega), if_neg (by omega)]
        · simp only [gw_wi, gw_wl]
          rw [if_neg (by omega)]
    · rw [if_neg cy] at D
      have M := gs_Mdial (F := F) (d := d) (g := g) (y := y) (w := u) hr w1 w4
      rw [if_pos c, if_neg cy] at M
      exact ⟨_, _, _, _, lw_dial_1 D, M, rfl, fun q => absurd q (by decide), same 2, off 2⟩
  · rw [if_neg c] at D
    have M := gs_Mdial (F := F) (d := d) (g := g) (y := y) (w := u) hr w1 w4
    rw [if_neg c] at M
    exact ⟨_, _, _, _, lw_dial_3 D, M, rfl, fun q => absurd q (by decide), same 1, off 1⟩
