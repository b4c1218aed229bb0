theorem eq_part {F : Nat} {u : gw_St} {n r j k : Nat} (hr : gv_Rf u) (hw : gv_Wk u n r) (hj : j < r) (hk : k < 4) : gf_Works_part F gv_z u 6 (Int32.ofNat j) (Int32.ofNat k) = some (u.1 8 (4 * j + k), u) := by
  have hr120 := hw.2.1
  have := gs_part (F := F) (r := r) (x := Int32.ofNat j) (y := Int32.ofNat k) hr hr120 ⟨by rw [i32_nat (by omega)]; omega, by rw [i32_nat (by omega)]; omega⟩ ⟨by rw [i32_nat (by omega)]; omega, by rw [i32_nat (by omega)]; omega⟩
  rw [i32_clamp (by omega), i32_clamp (by omega)] at this
  exact this
theorem eq_setTerms {F : Nat} {u : gw_St} {n r j : Nat} (hr : gv_Rf u) (hw : gv_Wk u n r) (hj : j < r) : ∃ w cnt G f, gf_Equations_setTerms F gv_z u 22 6 (Int32.ofNat j) = some w ∧ Gf (fun _ => False) Kp u w ∧ Tm w n cnt G f ∧ ∀ c, rv u j c = sm (fun t => at1 (G t) (f t) c) cnt := by
  have hn := hw.1
  obtain ⟨⟨-, k2, k3⟩, ⟨-, a2, a3⟩, ⟨-, b2, b3⟩, hab, h3⟩ := wk_rel hw hj
  obtain ⟨-, tA1, tA2⟩ := wk_gt hw a3
  obtain ⟨-, tB1, tB2⟩ := wk_gt hw b3
  have eA : (u.1 7 (gA u j)).toInt = gt u (gA u j) := rfl
  have eB : (u.1 7 (gB u j)).toInt = gt u (gB u j) := rfl
  have eNB : (-(u.1 7 (gB u j))).toInt = - gt u (gB u j) := by rw [n32_neg (by omega), eB]
  have eNA : (-(u.1 7 (gA u j))).toInt = - gt u (gA u j) := by rw [n32_neg (by omega), eA]
  have eS : (-(u.1 7 (gA u j)) - u.1 7 (gB u j)).toInt = - gt u (gA u j) - gt u (gB u j) := by rw [n32_sub (by omega) (by omega), eNA, eB]
  let u1 := gw_wi u 22 13 0
  have g1 : Gf (fun _ => False) Kp u u1 := Gf.wi (Or.inr (Or.inr ⟨rfl, rfl⟩))
  have r1 := hr.gf g1
  have w1 := hw.gf g1 Kp_wk
  have h13 : u1.1 22 13 = Int32.ofNat 0 := wi_same
  have h8 : ∀ k, u1.1 8 k = u.1 8 k := fun k => wi_ne (by omega)
  have h7 : ∀ k, u1.1 7 k = u.1 7 k := fun k => wi_ne (by omega)
  have hst : gf_Equations_setTerms F gv_z u 22 6 (Int32.ofNat j) = if gk u j = 0 then ((gf_Equations_addTerm F gv_z u1 22 (Int32.ofNat (gA u j)) (u.1 7 (gA u j))).bind fun u23 => (gf_Equations_addTerm F gv_z u23 22 (Int32.ofNat (gB u j)) (u.1 7 (gB u j))).bind fun u25 => some u25) else if gk u j = 1 then ((gf_Equations_addTerm F gv_z u1 22 (Int32.ofNat (gA u j)) (u.1 7 (gA u j))).bind fun u23 => (gf_Equations_addTerm F gv_z u23 22 (Int32.ofNat (gB u j)) (-(u.1 7 (gB u j)))).bind fun u25 => some u25) else if gk u j = 2 then ((gf_Equations_addTerm F gv_z u1 22 (Int32.ofNat (gA u j)) 1).bind fun u23 => (gf_Equations_addTerm F gv_z u23 22 (Int32.ofNat (gB u j)) (-1)).bind fun u25 => some u25) else ((gf_Equations_addTerm F gv_z u1 22 (Int32.ofNat (gA u j)) (u.1 7 (gA u j))).bind fun u23 => (gf_Equations_addTerm F gv_z u23 22 (Int32.ofNat (gB u j)) (u.1 7 (gB u j))).bind fun u25 => gf_cl (gf_Works_part F gv_z u25 6 (Int32.ofNat j) (3 : Int32)) fun a43 u41 => (gf_Equations_addTerm F gv_z u41 22 a43 (-(u.1 7 (gA u j)) - u.1 7 (gB u j))).bind fun u44 => some u44) := by
    show gf_Equations_setTerms_b0 F gv_z u 22 6 (Int32.ofNat j) = _
    unfold gf_Equations_setTerms_b0 gf_Equations_setTerms_b152
    simp only [gf_nm]
    rw [show gf_Works_part F gv_z (gw_wi u 22 13 0) 6 (Int32.ofNat j) 1 = some (u1.1 8 (4 * j + 1), u1) from eq_part (k := 1) r1 w1 hj (by omega)]
    simp only [gf_cl]
    rw [show gf_Works_part F gv_z u1 6 (Int32.ofNat j) 2 = some (u1.1 8 (4 * j + 2), u1) from eq_part (k := 2) r1 w1 hj (by omega)]
    simp only []
    rw [h8, h8, a2, b2, i32_clamp (n := gA u j) (by omega), i32_clamp (n := gB u j) (by omega), r1.get rfl gv_r6_0, gnn, if_neg (gi_ic (by rw [gv_l7]; omega) (by omega)), h7, gnn, if_neg (gi_ic (by rw [gv_l7]; omega) (by omega)), h7, show gf_Works_part F gv_z u1 6 (Int32.ofNat j) 0 = some (u1.1 8 (4 * j + 0), u1) from eq_part (k := 0) r1 w1 hj (by omega)]
    simp only []
    rw [h8, Nat.add_zero, k2]
    have hk : ∀ m, m < 4 → (Int32.ofNat (gk u j) = Int32.ofNat m ↔ gk u j = m) := fun m hm => ⟨fun e => by have := congrArg Int32.toInt e; rw [i32_nat (by omega), i32_nat (by omega)] at this; omega, fun e => by rw [e]⟩
    by_cases c0 : gk u j = 0
    · rw [if_pos c0, if_pos (show Int32.ofNat (gk u j) = (0 : Int32) from (hk 0 (by omega)).mpr c0)]
    · rw [if_neg c0, if_neg (show ¬ Int32.ofNat (gk u j) = (0 : Int32) from fun e => c0 ((hk 0 (by omega)).mp e))]
      by_cases c1 : gk u j = 1
      · rw [if_pos c1, if_pos (show Int32.ofNat (gk u j) = (1 : Int32) from (hk 1 (by omega)).mpr c1)]
      · rw [if_neg c1, if_neg (show ¬ Int32.ofNat (gk u j) = (1 : Int32) from fun e => c1 ((hk 1 (by omega)).mp e))]
        by_cases c2 : gk u j = 2
        · rw [if_pos c2, if_pos (show Int32.ofNat (gk u j) = (2 : Int32) from (hk 2 (by omega)).mpr c2)]
        · rw [if_neg c2, if_neg (show ¬ Int32.ofNat (gk u j) = (2 : Int32) from fun e => c2 ((hk 2 (by omega)).mp e))]
  rw [hst]
  have s2 : ∀ (f : Nat → Int), sm f 2 = f 0 + f 1 := fun f => by show 0 + f 0 + f 1 = _; omega
  have s3 : ∀ (f : Nat → Int), sm f 3 = f 0 + f 1 + f 2 := fun f => by show 0 + f 0 + f 1 + f 2 = _; omega
  by_cases c0 : gk u j = 0
  · rw [if_pos c0]
    obtain ⟨v1, v2, e1, e2, e3, e4⟩ := eq_two (F := F) (x := u.1 7 (gA u j)) (y := u.1 7 (gB u j)) r1 h13 a3 b3 hab (by omega) (by omega)
    refine ⟨v2, 2, _, _, by rw [e1, Option.bind_some, e2, Option.bind_some], g1.trans e3, e4, fun c => ?_⟩
    rw [s2]
    unfold rv two
    rw [if_neg (by omega), if_neg (by omega), if_pos c0]
    rfl
  · rw [if_neg c0]
    by_cases c1 : gk u j = 1
    · rw [if_pos c1]
      obtain ⟨v1, v2, e1, e2, e3, e4⟩ := eq_two (F := F) (x := u.1 7 (gA u j)) (y := -(u.1 7 (gB u j))) r1 h13 a3 b3 hab (by omega) (by omega)
      refine ⟨v2, 2, _, _, by rw [e1, Option.bind_some, e2, Option.bind_some], g1.trans e3, e4, fun c => ?_⟩
      rw [s2]
      unfold rv two
      rw [if_neg (by omega), if_neg (by omega), if_neg c0, eNB]
      rfl
    · rw [if_neg c1]
      by_cases c2 : gk u j = 2
      · rw [if_pos c2]
        have o1 : (1 : Int32).toInt = 1 := rfl
        have o2 : (-1 : Int32).toInt = -1 := rfl
        obtain ⟨v1, v2, e1, e2, e3, e4⟩ := eq_two (F := F) (x := 1) (y := -1) r1 h13 a3 b3 hab (by omega) (by omega)
        refine ⟨v2, 2, _, _, by rw [e1, Option.bind_some, e2, Option.bind_some], g1.trans e3, e4, fun c => ?_⟩
        rw [s2]
        unfold rv two
        rw [if_pos c2, o1, o2]
        rfl
      · rw [if_neg c2]
        have c3 : gk u j = 3 := by omega
        obtain ⟨-, d2, d3, d4, d5⟩ := h3 c3
        obtain ⟨v1, v2, e1, e2, e3, e4⟩ := eq_two (F := F) (x := u.1 7 (gA u j)) (y := u.1 7 (gB u j)) r1 h13 a3 b3 hab (by omega) (by omega)
        have rv2 := r1.gf e3
        obtain ⟨v3, f1, f2, f3⟩ := eq_three (F := F) (z := -(u.1 7 (gA u j)) - u.1 7 (gB u j)) rv2 e4 d3 d4 d5 (by omega)
        refine ⟨v3, 3, _, _, ?_, g1.trans (e3.trans f2), f3, fun c => ?_⟩
        · rw [e1, Option.bind_some, e2, Option.bind_some, show gf_Works_part F gv_z v2 6 (Int32.ofNat j) 3 = some (v2.1 8 (4 * j + 3), v2) from eq_part (k := 3) rv2 (w1.gf e3 Kp_wk) hj (by omega)]
          simp only [gf_cl]
          rw [show v2.1 8 (4 * j + 3) = Int32.ofNat (gC u j) from by rw [e3.2.2 8 _ (by unfold Kp; omega), h8]; exact d2, f1, Option.bind_some]
        · rw [s3]
          unfold rv two
          rw [if_neg c2, if_pos c3, eS]
          rfl
