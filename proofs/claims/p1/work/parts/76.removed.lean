theorem gs_remove {F : Nat} (hF : 1000 ≤ F) {u : gw_St} {n r : Nat} (hr : gv_Rf u) (hw : gv_Wk u n r) (x : Int32) : ∃ r', gv_Op gv_S_rel u n r' (gf_Law_remove F gv_z u 0 x 701) (fun w => gf_Model_remove F gv_z w 670 x) (fun w a => lg_cmp (w.2.1 701 0) a.toInt64 = 0) := by
  obtain ⟨w1, w2, w3, w4, w5, w6, w7, w8, w9, w10, w11⟩ := id hw
  have D := gs_Dremove (F := F) (x := x) hr hw
  by_cases c : gv_in r x
  · have hx1 : (x.toNatClampNeg : Int) = x.toInt := Int.toNat_of_nonneg c.1
    rw [if_pos c] at D
    have hX : x.toNatClampNeg < r := by omega
    have M := gs_Mremove hF (x := x) (w := gw_wl (gw_cp (gw_wi u 6 3 (Int32.ofNat (r - 1))) 8 (4 * x.toNatClampNeg + 4) 8 (4 * x.toNatClampNeg) (4 * (r - 1) - 4 * x.toNatClampNeg)) 701 0 (Int32.ofNat (r - 1)).toInt64) (hr.eq rfl) w6 w2
    rw [if_pos c] at M
    refine ⟨r - 1, _, _, _, _, lw_remove_v D gv_zo, M, rfl, fun _ => lgc_zero.mpr rfl, ?_, ⟨fun p q hS => ?_, rfl⟩⟩
    · generalize x.toNatClampNeg = X at *
      have rd8 : ∀ q, (gv_sh (gw_wi (gw_wi (gw_wl (gw_cp (gw_wi u 6 3 (Int32.ofNat (r - 1))) 8 (4 * X + 4) 8 (4 * X) (4 * (r - 1) - 4 * X)) 701 0 (Int32.ofNat (r - 1)).toInt64) 670 0 0) 670 19 (Int32.ofNat (r - 1))) X (r - 1)).1 8 q = if 4 * X ≤ q ∧ q < 4 * (r - 1) then u.1 8 (q + 4) else u.1 8 q := by
        intro q
        show va_cpy (u.1 8) (u.1 8) (4 * X + 4) (4 * X) (4 * (r - 1) - 4 * X) q = _
        unfold va_cpy
        by_cases h : 4 * X ≤ q ∧ q < 4 * (r - 1)
        · rw [if_pos h, if_pos (by omega), show 4 * X + 4 + (q - 4 * X) = q + 4 by omega]
        · rw [if_neg h, if_neg (by omega)]
      have rdm : ∀ p q, 675 ≤ p → p ≤ 678 → (gv_sh (gw_wi (gw_wi (gw_wl (gw_cp (gw_wi u 6 3 (Int32.ofNat (r - 1))) 8 (4 * X + 4) 8 (4 * X) (4 * (r - 1) - 4 * X)) 701 0 (Int32.ofNat (r - 1)).toInt64) 670 0 0) 670 19 (Int32.ofNat (r - 1))) X (r - 1)).1 p q = if X ≤ q ∧ q < r - 1 then u.1 p (q + 1) else u.1 p q := by
        intro p q h1 h2
        have e : ∀ q, (gw_wi (gw_wi (gw_wl (gw_cp (gw_wi u 6 3 (Int32.ofNat (r - 1))) 8 (4 * X + 4) 8 (4 * X) (4 * (r - 1) - 4 * X)) 701 0 (Int32.ofNat (r - 1)).toInt64) 670 0 0) 670 19 (Int32.ofNat (r - 1))).1 p q = u.1 p q := fun q => by
          simp only [gw_wi, gw_wl, gw_cp]
          rw [if_neg (by omega), if_neg (by omega), if_neg (by omega), if_neg (by omega)]
        simp only [gv_sh]
        rw [e, e]
        by_cases h : X ≤ q ∧ q < r - 1
        · rw [if_pos h, if_pos (by omega)]
        · rw [if_neg h, if_neg (by omega)]
      refine ⟨w1, by omega, w3, w4, rfl, rfl, w7, fun j hj => ?_, w9, w10, w11⟩
      rw [rd8, rd8, rd8, rd8, rdm 675 j (by omega) (by omega), rdm 676 j (by omega) (by omega), rdm 677 j (by omega) (by omega), rdm 678 j (by omega) (by omega)]
      by_cases h : X ≤ j
      · rw [if_pos (by omega), if_pos (by omega), if_pos (by omega), if_pos (by omega), if_pos (by omega), if_pos (by omega), if_pos (by omega), if_pos (by omega)]
        have := w8 (j + 1) (by omega)
        rw [show 4 * (j + 1) = 4 * j + 4 by omega, show 4 * j + 4 + 1 = 4 * j + 1 + 4 by omega, show 4 * j + 4 + 2 = 4 * j + 2 + 4 by omega, show 4 * j + 4 + 3 = 4 * j + 3 + 4 by omega] at this
        exact this
      · rw [if_neg (by omega), if_neg (by omega), if_neg (by omega), if_neg (by omega), if_neg (by omega), if_neg (by omega), if_neg (by omega), if_neg (by omega)]
        exact w8 j (by omega)
    · simp only [gv_S_rel, Bool.or_eq_false_iff, Bool.and_eq_false_iff, beq_eq_false_iff_ne, ne_eq] at hS
      constructor
      · simp only [gv_sh, gw_wi, gw_wl, gw_cp]
        rw [if_neg (by omega), if_neg (by omega), if_neg (by omega), if_neg (by omega), if_neg (by omega)]
      · simp only [gv_sh, gw_wi, gw_wl, gw_cp]
        rw [if_neg (by omega)]
  · rw [if_neg c] at D
    have M := gs_Mremove hF (x := x) hr w6 w2
    rw [if_neg c] at M
    refine ⟨r, _, _, _, _, lw_remove_3 D, M, rfl, fun q => absurd q (by decide), hw.off gv_off_thr, ⟨fun p q hS => gv_off_thr.1 p q ?_, rfl⟩⟩
    simp only [gv_S_rel, Bool.or_eq_false_iff, Bool.and_eq_false_iff, beq_eq_false_iff_ne, ne_eq] at hS
    simp only [gv_S_thr, Bool.or_eq_false_iff, Bool.and_eq_false_iff, beq_eq_false_iff_ne, ne_eq]
    omega
