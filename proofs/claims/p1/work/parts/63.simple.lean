/-! what the wrappers answer -/
theorem lw_want_v {F : Nat} {z : gw_Sh} {u w : gw_St} {x1 x2 x3 x4 x5 : Int32} {a : Int32} (h : gf_Desk_want F z u 0 x1 x2 x3 x4 x5 = some (.inl a, w)) (ho : z.2.2 701 = 1) : gf_Law_want F z u 0 x1 x2 x3 x4 x5 701 = some (0, gw_wl w 701 0 a.toInt64) := by
  show gf_Law_want_b0 F z u 0 x1 x2 x3 x4 x5 701 = _
  unfold gf_Law_want_b0
  rw [h]
  simp only [gf_ch]
  rw [if_neg (gv_o0 ho)]
  rfl
theorem lw_want_1 {F : Nat} {z : gw_Sh} {u w : gw_St} {x1 x2 x3 x4 x5 : Int32} (h : gf_Desk_want F z u 0 x1 x2 x3 x4 x5 = some (.inr 1, w)) : gf_Law_want F z u 0 x1 x2 x3 x4 x5 701 = some (1, w) := by
  show gf_Law_want_b0 F z u 0 x1 x2 x3 x4 x5 701 = _
  unfold gf_Law_want_b0
  rw [h]
  rfl
theorem lw_search_v {F : Nat} {z : gw_Sh} {u w : gw_St} {x1 : Int32} {a : Int32} (h : gf_Desk_search F z u 0 x1 = some (.inl a, w)) (ho : z.2.2 701 = 1) : gf_Law_search F z u 0 x1 701 = some (0, gw_wl w 701 0 (if a = 0 then 0 else 1)) := by
  show gf_Law_search_b0 F z u 0 x1 701 = _
  unfold gf_Law_search_b0
  rw [h]
  simp only [gf_ch]
  by_cases c : a = 0
  · rw [if_pos c, if_pos c]
    unfold gf_Law_search_b15
    rw [if_neg (gv_o0 ho)]
    rfl
  · rw [if_neg c, if_neg c]
    unfold gf_Law_search_b15
    rw [if_neg (gv_o0 ho)]
    rfl
theorem lw_search_1 {F : Nat} {z : gw_Sh} {u w : gw_St} {x1 : Int32} (h : gf_Desk_search F z u 0 x1 = some (.inr 1, w)) : gf_Law_search F z u 0 x1 701 = some (1, w) := by
  show gf_Law_search_b0 F z u 0 x1 701 = _
  unfold gf_Law_search_b0
  rw [h]
  rfl
theorem lw_search_2 {F : Nat} {z : gw_Sh} {u w : gw_St} {x1 : Int32} (h : gf_Desk_search F z u 0 x1 = some (.inr 2, w)) : gf_Law_search F z u 0 x1 701 = some (2, w) := by
  show gf_Law_search_b0 F z u 0 x1 701 = _
  unfold gf_Law_search_b0
  rw [h]
  rfl
theorem lw_tooth_v {F : Nat} {z : gw_Sh} {u w : gw_St} {x1 x2 : Int32} {a : Int32} (h : gf_Desk_tooth F z u 0 x1 x2 = some (.inl a, w)) (ho : z.2.2 701 = 1) : gf_Law_tooth F z u 0 x1 x2 701 = some (0, gw_wl w 701 0 a.toInt64) := by
  show gf_Law_tooth_b0 F z u 0 x1 x2 701 = _
  unfold gf_Law_tooth_b0
  rw [h]
  simp only [gf_ch]
  rw [if_neg (gv_o0 ho)]
  rfl
theorem lw_tooth_2 {F : Nat} {z : gw_Sh} {u w : gw_St} {x1 x2 : Int32} (h : gf_Desk_tooth F z u 0 x1 x2 = some (.inr 2, w)) : gf_Law_tooth F z u 0 x1 x2 701 = some (1, w) := by
  show gf_Law_tooth_b0 F z u 0 x1 x2 701 = _
  unfold gf_Law_tooth_b0
  rw [h]
  rfl
theorem lw_tooth_3 {F : Nat} {z : gw_Sh} {u w : gw_St} {x1 x2 : Int32} (h : gf_Desk_tooth F z u 0 x1 x2 = some (.inr 3, w)) : gf_Law_tooth F z u 0 x1 x2 701 = some (2, w) := by
  show gf_Law_tooth_b0 F z u 0 x1 x2 701 = _
  unfold gf_Law_tooth_b0
  rw [h]
  rfl
theorem lw_error_v {F : Nat} {z : gw_Sh} {u w : gw_St} {x1 : Int32} {a : Int64} (h : gf_Desk_error F z u 0 x1 = some (.inl a, w)) (ho : z.2.2 701 = 1) : gf_Law_error F z u 0 x1 701 = some (0, gw_wl w 701 0 a) := by
  show gf_Law_error_b0 F z u 0 x1 701 = _
  unfold gf_Law_error_b0
  rw [h]
  simp only [gf_ch]
  rw [if_neg (gv_o0 ho)]
  rfl
theorem lw_error_2 {F : Nat} {z : gw_Sh} {u w : gw_St} {x1 : Int32} (h : gf_Desk_error F z u 0 x1 = some (.inr 2, w)) : gf_Law_error F z u 0 x1 701 = some (1, w) := by
  show gf_Law_error_b0 F z u 0 x1 701 = _
  unfold gf_Law_error_b0
  rw [h]
  rfl
theorem lw_error_3 {F : Nat} {z : gw_Sh} {u w : gw_St} {x1 : Int32} (h : gf_Desk_error F z u 0 x1 = some (.inr 3, w)) : gf_Law_error F z u 0 x1 701 = some (2, w) := by
  show gf_Law_error_b0 F z u 0 x1 701 = _
  unfold gf_Law_error_b0
  rw [h]
  rfl
theorem lw_quotient_v {F : Nat} {z : gw_Sh} {u w : gw_St} {x1 x2 x3 : Int32} {a : Int32} (h : gf_Desk_quotient F z u 0 x1 x2 x3 = some (.inl a, w)) (ho : z.2.2 701 = 1) : gf_Law_quotient F z u 0 x1 x2 x3 701 = some (0, gw_wl w 701 0 a.toInt64) := by
  show gf_Law_quotient_b0 F z u 0 x1 x2 x3 701 = _
  unfold gf_Law_quotient_b0
  rw [h]
  simp only [gf_ch]
  rw [if_neg (gv_o0 ho)]
  rfl
theorem lw_quotient_1 {F : Nat} {z : gw_Sh} {u w : gw_St} {x1 x2 x3 : Int32} (h : gf_Desk_quotient F z u 0 x1 x2 x3 = some (.inr 1, w)) : gf_Law_quotient F z u 0 x1 x2 x3 701 = some (1, w) := by
  show gf_Law_quotient_b0 F z u 0 x1 x2 x3 701 = _
  unfold gf_Law_quotient_b0
  rw [h]
  rfl
theorem lw_quotient_3 {F : Nat} {z : gw_Sh} {u w : gw_St} {x1 x2 x3 : Int32} (h : gf_Desk_quotient F z u 0 x1 x2 x3 = some (.inr 3, w)) : gf_Law_quotient F z u 0 x1 x2 x3 701 = some (2, w) := by
  show gf_Law_quotient_b0 F z u 0 x1 x2 x3 701 = _
  unfold gf_Law_quotient_b0
  rw [h]
  rfl
theorem lw_gear_v {F : Nat} {z : gw_Sh} {u w : gw_St} {x1 : Int32} {a : Int32} (h : gf_Desk_gear F z u 0 x1 = some (.inl a, w)) (ho : z.2.2 701 = 1) : gf_Law_gear F z u 0 x1 701 = some (0, gw_wl w 701 0 a.toInt64) := by
  show gf_Law_gear_b0 F z u 0 x1 701 = _
  unfold gf_Law_gear_b0
  rw [h]
  simp only [gf_ch]
  rw [if_neg (gv_o0 ho)]
  rfl
theorem lw_gear_1 {F : Nat} {z : gw_Sh} {u w : gw_St} {x1 : Int32} (h : gf_Desk_gear F z u 0 x1 = some (.inr 1, w)) : gf_Law_gear F z u 0 x1 701 = some (1, w) := by
  show gf_Law_gear_b0 F z u 0 x1 701 = _
  unfold gf_Law_gear_b0
  rw [h]
  rfl
theorem lw_gear_2 {F : Nat} {z : gw_Sh} {u w : gw_St} {x1 : Int32} (h : gf_Desk_gear F z u 0 x1 = some (.inr 2, w)) : gf_Law_gear F z u 0 x1 701 = some (2, w) := by
  show gf_Law_gear_b0 F z u 0 x1 701 = _
  unfold gf_Law_gear_b0
  rw [h]
  rfl
theorem lw_mesh_v {F : Nat} {z : gw_Sh} {u w : gw_St} {x1 x2 : Int32} {a : Int32} (h : gf_Desk_mesh F z u 0 x1 x2 = some (.inl a, w)) (ho : z.2.2 701 = 1) : gf_Law_mesh F z u 0 x1 x2 701 = some (0, gw_wl w 701 0 a.toInt64) := by
  show gf_Law_mesh_b0 F z u 0 x1 x2 701 = _
  unfold gf_Law_mesh_b0
  rw [h]
  simp only [gf_ch]
  rw [if_neg (gv_o0 ho)]
  rfl
theorem lw_mesh_3 {F : Nat} {z : gw_Sh} {u w : gw_St} {x1 x2 : Int32} (h : gf_Desk_mesh F z u 0 x1 x2 = some (.inr 3, w)) : gf_Law_mesh F z u 0 x1 x2 701 = some (1, w) := by
  show gf_Law_mesh_b0 F z u 0 x1 x2 701 = _
  unfold gf_Law_mesh_b0
  rw [h]
  rfl
theorem lw_mesh_1 {F : Nat} {z : gw_Sh} {u w : gw_St} {x1 x2 : Int32} (h : gf_Desk_mesh F z u 0 x1 x2 = some (.inr 1, w)) : gf_Law_mesh F z u 0 x1 x2 701 = some (2, w) := by
  show gf_Law_mesh_b0 F z u 0 x1 x2 701 = _
  unfold gf_Law_mesh_b0
  rw [h]
  rfl
theorem lw_mesh_2 {F : Nat} {z : gw_Sh} {u w : gw_St} {x1 x2 : Int32} (h : gf_Desk_mesh F z u 0 x1 x2 = some (.inr 2, w)) : gf_Law_mesh F z u 0 x1 x2 701 = some (3, w) := by
  show gf_Law_mesh_b0 F z u 0 x1 x2 701 = _
  unfold gf_Law_mesh_b0
  rw [h]
  rfl
theorem lw_inner_v {F : Nat} {z : gw_Sh} {u w : gw_St} {x1 x2 : Int32} {a : Int32} (h : gf_Desk_inner F z u 0 x1 x2 = some (.inl a, w)) (ho : z.2.2 701 = 1) : gf_Law_inner F z u 0 x1 x2 701 = some (0, gw_wl w 701 0 a.toInt64) := by
  show gf_Law_inner_b0 F z u 0 x1 x2 701 = _
  unfold gf_Law_inner_b0
  rw [h]
  simp only [gf_ch]
  rw [if_neg (gv_o0 ho)]
  rfl
theorem lw_inner_3 {F : Nat} {z : gw_Sh} {u w : gw_St} {x1 x2 : Int32} (h : gf_Desk_inner F z u 0 x1 x2 = some (.inr 3, w)) : gf_Law_inner F z u 0 x1 x2 701 = some (1, w) := by
  show gf_Law_inner_b0 F z u 0 x1 x2 701 = _
  unfold gf_Law_inner_b0
  rw [h]
  rfl
theorem lw_inner_1 {F : Nat} {z : gw_Sh} {u w : gw_St} {x1 x2 : Int32} (h : gf_Desk_inner F z u 0 x1 x2 = some (.inr 1, w)) : gf_Law_inner F z u 0 x1 x2 701 = some (2, w) := by
  show gf_Law_inner_b0 F z u 0 x1 x2 701 = _
  unfold gf_Law_inner_b0
  rw [h]
  rfl
theorem lw_inner_2 {F : Nat} {z : gw_Sh} {u w : gw_St} {x1 x2 : Int32} (h : gf_Desk_inner F z u 0 x1 x2 = some (.inr 2, w)) : gf_Law_inner F z u 0 x1 x2 701 = some (3, w) := by
  show gf_Law_inner_b0 F z u 0 x1 x2 701 = _
  unfold gf_Law_inner_b0
  rw [h]
  rfl
theorem lw_arbor_v {F : Nat} {z : gw_Sh} {u w : gw_St} {x1 x2 : Int32} {a : Int32} (h : gf_Desk_arbor F z u 0 x1 x2 = some (.inl a, w)) (ho : z.2.2 701 = 1) : gf_Law_arbor F z u 0 x1 x2 701 = some (0, gw_wl w 701 0 a.toInt64) := by
  show gf_Law_arbor_b0 F z u 0 x1 x2 701 = _
  unfold gf_Law_arbor_b0
  rw [h]
  simp only [gf_ch]
  rw [if_neg (gv_o0 ho)]
  rfl
theorem lw_arbor_3 {F : Nat} {z : gw_Sh} {u w : gw_St} {x1 x2 : Int32} (h : gf_Desk_arbor F z u 0 x1 x2 = some (.inr 3, w)) : gf_Law_arbor F z u 0 x1 x2 701 = some (1, w) := by
  show gf_Law_arbor_b0 F z u 0 x1 x2 701 = _
  unfold gf_Law_arbor_b0
  rw [h]
  rfl
theorem lw_arbor_1 {F : Nat} {z : gw_Sh} {u w : gw_St} {x1 x2 : Int32} (h : gf_Desk_arbor F z u 0 x1 x2 = some (.inr 1, w)) : gf_Law_arbor F z u 0 x1 x2 701 = some (2, w) := by
  show gf_Law_arbor_b0 F z u 0 x1 x2 701 = _
  unfold gf_Law_arbor_b0
  rw [h]
  rfl
theorem lw_arbor_2 {F : Nat} {z : gw_Sh} {u w : gw_St} {x1 x2 : Int32} (h : gf_Desk_arbor F z u 0 x1 x2 = some (.inr 2, w)) : gf_Law_arbor F z u 0 x1 x2 701 = some (3, w) := by
  show gf_Law_arbor_b0 F z u 0 x1 x2 701 = _
  unfold gf_Law_arbor_b0
  rw [h]
  rfl
theorem lw_planet_v {F : Nat} {z : gw_Sh} {u w : gw_St} {x1 x2 x3 : Int32} {a : Int32} (h : gf_Desk_planet F z u 0 x1 x2 x3 = some (.inl a, w)) (ho : z.2.2 701 = 1) : gf_Law_planet F z u 0 x1 x2 x3 701 = some (0, gw_wl w 701 0 a.toInt64) := by
  show gf_Law_planet_b0 F z u 0 x1 x2 x3 701 = _
  unfold gf_Law_planet_b0
  rw [h]
  simp only [gf_ch]
  rw [if_neg (gv_o0 ho)]
  rfl
theorem lw_planet_3 {F : Nat} {z : gw_Sh} {u w : gw_St} {x1 x2 x3 : Int32} (h : gf_Desk_planet F z u 0 x1 x2 x3 = some (.inr 3, w)) : gf_Law_planet F z u 0 x1 x2 x3 701 = some (1, w) := by
  show gf_Law_planet_b0 F z u 0 x1 x2 x3 701 = _
  unfold gf_Law_planet_b0
  rw [h]
  rfl
theorem lw_planet_1 {F : Nat} {z : gw_Sh} {u w : gw_St} {x1 x2 x3 : Int32} (h : gf_Desk_planet F z u 0 x1 x2 x3 = some (.inr 1, w)) : gf_Law_planet F z u 0 x1 x2 x3 701 = some (2, w) := by
  show gf_Law_planet_b0 F z u 0 x1 x2 x3 701 = _
  unfold gf_Law_planet_b0
  rw [h]
  rfl
theorem lw_planet_2 {F : Nat} {z : gw_Sh} {u w : gw_St} {x1 x2 x3 : Int32} (h : gf_Desk_planet F z u 0 x1 x2 x3 = some (.inr 2, w)) : gf_Law_planet F z u 0 x1 x2 x3 701 = some (3, w) := by
  show gf_Law_planet_b0 F z u 0 x1 x2 x3 701 = _
  unfold gf_Law_planet_b0
  rw [h]
  rfl
theorem lw_remove_v {F : Nat} {z : gw_Sh} {u w : gw_St} {x1 : Int32} {a : Int32} (h : gf_Desk_remove F z u 0 x1 = some (.inl a, w)) (ho : z.2.2 701 = 1) : gf_Law_remove F z u 0 x1 701 = some (0, gw_wl w 701 0 a.toInt64) := by
  show gf_Law_remove_b0 F z u 0 x1 701 = _
  unfold gf_Law_remove_b0
  rw [h]
  simp only [gf_ch]
  rw [if_neg (gv_o0 ho)]
  rfl
theorem lw_remove_3 {F : Nat} {z : gw_Sh} {u w : gw_St} {x1 : Int32} (h : gf_Desk_remove F z u 0 x1 = some (.inr 3, w)) : gf_Law_remove F z u 0 x1 701 = some (1, w) := by
  show gf_Law_remove_b0 F z u 0 x1 701 = _
  unfold gf_Law_remove_b0
  rw [h]
  rfl
theorem lw_relation_v {F : Nat} {z : gw_Sh} {u w : gw_St} {x1 x2 : Int32} {a : Int32} (h : gf_Desk_relation F z u 0 x1 x2 = some (.inl a, w)) (ho : z.2.2 701 = 1) : gf_Law_relation F z u 0 x1 x2 701 = some (0, gw_wl w 701 0 a.toInt64) := by
  show gf_Law_relation_b0 F z u 0 x1 x2 701 = _
  unfold gf_Law_relation_b0
  rw [h]
  simp only [gf_ch]
  rw [if_neg (gv_o0 ho)]
  rfl
theorem lw_relation_3 {F : Nat} {z : gw_Sh} {u w : gw_St} {x1 x2 : Int32} (h : gf_Desk_relation F z u 0 x1 x2 = some (.inr 3, w)) : gf_Law_relation F z u 0 x1 x2 701 = some (1, w) := by
  show gf_Law_relation_b0 F z u 0 x1 x2 701 = _
  unfold gf_Law_relation_b0
  rw [h]
  rfl
theorem lw_crank_v {F : Nat} {z : gw_Sh} {u w : gw_St} {x1 : Int32} {a : Int32} (h : gf_Desk_crank F z u 0 x1 = some (.inl a, w)) (ho : z.2.2 701 = 1) : gf_Law_crank F z u 0 x1 701 = some (0, gw_wl w 701 0 a.toInt64) := by
  show gf_Law_crank_b0 F z u 0 x1 701 = _
  unfold gf_Law_crank_b0
  rw [h]
  simp only [gf_ch]
  rw [if_neg (gv_o0 ho)]
  rfl
theorem lw_crank_3 {F : Nat} {z : gw_Sh} {u w : gw_St} {x1 : Int32} (h : gf_Desk_crank F z u 0 x1 = some (.inr 3, w)) : gf_Law_crank F z u 0 x1 701 = some (1, w) := by
  show gf_Law_crank_b0 F z u 0 x1 701 = _
  unfold gf_Law_crank_b0
  rw [h]
  rfl
theorem lw_solve_v {F : Nat} {z : gw_Sh} {u w : gw_St} {a : Int32} (h : gf_Desk_solve F z u 0 = some (.inl a, w)) (ho : z.2.2 701 = 1) : gf_Law_solve F z u 0 701 = some (0, gw_wl w 701 0 a.toInt64) := by
  show gf_Law_solve_b0 F z u 0 701 = _
  unfold gf_Law_solve_b0
  rw [h]
  simp only [gf_ch]
  rw [if_neg (gv_o0 ho)]
  rfl
theorem lw_solve_2 {F : Nat} {z : gw_Sh} {u w : gw_St} (h : gf_Desk_solve F z u 0 = some (.inr 2, w)) : gf_Law_solve F z u 0 701 = some (1, w) := by
  show gf_Law_solve_b0 F z u 0 701 = _
  unfold gf_Law_solve_b0
  rw [h]
  rfl
theorem lw_solve_4 {F : Nat} {z : gw_Sh} {u w : gw_St} (h : gf_Desk_solve F z u 0 = some (.inr 4, w)) : gf_Law_solve F z u 0 701 = some (2, w) := by
  show gf_Law_solve_b0 F z u 0 701 = _
  unfold gf_Law_solve_b0
  rw [h]
  rfl
theorem lw_speed_v {F : Nat} {z : gw_Sh} {u w : gw_St} {x1 x2 x3 : Int32} {a : Int32} (h : gf_Desk_speed F z u 0 x1 x2 x3 = some (.inl a, w)) (ho : z.2.2 701 = 1) : gf_Law_speed F z u 0 x1 x2 x3 701 = some (0, gw_wl w 701 0 a.toInt64) := by
  show gf_Law_speed_b0 F z u 0 x1 x2 x3 701 = _
  unfold gf_Law_speed_b0
  rw [h]
  simp only [gf_ch]
  rw [if_neg (gv_o0 ho)]
  rfl
theorem lw_speed_3 {F : Nat} {z : gw_Sh} {u w : gw_St} {x1 x2 x3 : Int32} (h : gf_Desk_speed F z u 0 x1 x2 x3 = some (.inr 3, w)) : gf_Law_speed F z u 0 x1 x2 x3 701 = some (1, w) := by
  show gf_Law_speed_b0 F z u 0 x1 x2 x3 701 = _
  unfold gf_Law_speed_b0
  rw [h]
  rfl
theorem lw_speed_2 {F : Nat} {z : gw_Sh} {u w : gw_St} {x1 x2 x3 : Int32} (h : gf_Desk_speed F z u 0 x1 x2 x3 = some (.inr 2, w)) : gf_Law_speed F z u 0 x1 x2 x3 701 = some (2, w) := by
  show gf_Law_speed_b0 F z u 0 x1 x2 x3 701 = _
  unfold gf_Law_speed_b0
  rw [h]
  rfl
theorem lw_dial_v {F : Nat} {z : gw_Sh} {u w : gw_St} {x1 x2 x3 : Int32} {a : Int32} (h : gf_Desk_dial F z u 0 x1 x2 x3 = some (.inl a, w)) (ho : z.2.2 701 = 1) : gf_Law_dial F z u 0 x1 x2 x3 701 = some (0, gw_wl w 701 0 a.toInt64) := by
  show gf_Law_dial_b0 F z u 0 x1 x2 x3 701 = _
  unfold gf_Law_dial_b0
  rw [h]
  simp only [gf_ch]
  rw [if_neg (gv_o0 ho)]
  rfl
theorem lw_dial_3 {F : Nat} {z : gw_Sh} {u w : gw_St} {x1 x2 x3 : Int32} (h : gf_Desk_dial F z u 0 x1 x2 x3 = some (.inr 3, w)) : gf_Law_dial F z u 0 x1 x2 x3 701 = some (1, w) := by
  show gf_Law_dial_b0 F z u 0 x1 x2 x3 701 = _
  unfold gf_Law_dial_b0
  rw [h]
  rfl
theorem lw_dial_1 {F : Nat} {z : gw_Sh} {u w : gw_St} {x1 x2 x3 : Int32} (h : gf_Desk_dial F z u 0 x1 x2 x3 = some (.inr 1, w)) : gf_Law_dial F z u 0 x1 x2 x3 701 = some (2, w) := by
  show gf_Law_dial_b0 F z u 0 x1 x2 x3 701 = _
  unfold gf_Law_dial_b0
  rw [h]
  rfl
theorem lw_position_v {F : Nat} {z : gw_Sh} {u w : gw_St} {x1 x2 x3 : Int32} {a : Int32} (h : gf_Desk_position F z u 0 x1 x2 x3 = some (.inl a, w)) (ho : z.2.2 701 = 1) : gf_Law_position F z u 0 x1 x2 x3 701 = some (0, gw_wl w 701 0 a.toInt64) := by
  show gf_Law_position_b0 F z u 0 x1 x2 x3 701 = _
  unfold gf_Law_position_b0
  rw [h]
  simp only [gf_ch]
  rw [if_neg (gv_o0 ho)]
  rfl
theorem lw_position_3 {F : Nat} {z : gw_Sh} {u w : gw_St} {x1 x2 x3 : Int32} (h : gf_Desk_position F z u 0 x1 x2 x3 = some (.inr 3, w)) : gf_Law_position F z u 0 x1 x2 x3 701 = some (1, w) := by
  show gf_Law_position_b0 F z u 0 x1 x2 x3 701 = _
  unfold gf_Law_position_b0
  rw [h]
  rfl
theorem lw_position_1 {F : Nat} {z : gw_Sh} {u w : gw_St} {x1 x2 x3 : Int32} (h : gf_Desk_position F z u 0 x1 x2 x3 = some (.inr 1, w)) : gf_Law_position F z u 0 x1 x2 x3 701 = some (2, w) := by
  show gf_Law_position_b0 F z u 0 x1 x2 x3 701 = _
  unfold gf_Law_position_b0
  rw [h]
  rfl
theorem lw_position_2 {F : Nat} {z : gw_Sh} {u w : gw_St} {x1 x2 x3 : Int32} (h : gf_Desk_position F z u 0 x1 x2 x3 = some (.inr 2, w)) : gf_Law_position F z u 0 x1 x2 x3 701 = some (3, w) := by
  show gf_Law_position_b0 F z u 0 x1 x2 x3 701 = _
  unfold gf_Law_position_b0
  rw [h]
  rfl
theorem lw_position_4 {F : Nat} {z : gw_Sh} {u w : gw_St} {x1 x2 x3 : Int32} (h : gf_Desk_position F z u 0 x1 x2 x3 = some (.inr 4, w)) : gf_Law_position F z u 0 x1 x2 x3 701 = some (4, w) := by
  show gf_Law_position_b0 F z u 0 x1 x2 x3 701 = _
  unfold gf_Law_position_b0
  rw [h]
  rfl
theorem lw_meet_v {F : Nat} {z : gw_Sh} {u w : gw_St} {x1 x2 : Int32} {a : Int32} (h : gf_Desk_meet F z u 0 x1 x2 = some (.inl a, w)) (ho : z.2.2 701 = 1) : gf_Law_meet F z u 0 x1 x2 701 = some (0, gw_wl w 701 0 (if a = 0 then 0 else 1)) := by
  show gf_Law_meet_b0 F z u 0 x1 x2 701 = _
  unfold gf_Law_meet_b0
  rw [h]
  simp only [gf_ch]
  by_cases c : a = 0
  · rw [if_pos c, if_pos c]
    unfold gf_Law_meet_b16
    rw [if_neg (gv_o0 ho)]
    rfl
  · rw [if_neg c, if_neg c]
    unfold gf_Law_meet_b16
    rw [if_neg (gv_o0 ho)]
    rfl
theorem lw_meet_3 {F : Nat} {z : gw_Sh} {u w : gw_St} {x1 x2 : Int32} (h : gf_Desk_meet F z u 0 x1 x2 = some (.inr 3, w)) : gf_Law_meet F z u 0 x1 x2 701 = some (1, w) := by
  show gf_Law_meet_b0 F z u 0 x1 x2 701 = _
  unfold gf_Law_meet_b0
  rw [h]
  rfl
theorem lw_meet_4 {F : Nat} {z : gw_Sh} {u w : gw_St} {x1 x2 : Int32} (h : gf_Desk_meet F z u 0 x1 x2 = some (.inr 4, w)) : gf_Law_meet F z u 0 x1 x2 701 = some (2, w) := by
  show gf_Law_meet_b0 F z u 0 x1 x2 701 = _
  unfold gf_Law_meet_b0
  rw [h]
  rfl
theorem lw_back_v {F : Nat} {z : gw_Sh} {u w : gw_St} {a : Int32} (h : gf_Desk_back F z u 0 = some (.inl a, w)) (ho : z.2.2 701 = 1) : gf_Law_back F z u 0 701 = some (0, gw_wl w 701 0 (if a = 0 then 0 else 1)) := by
  show gf_Law_back_b0 F z u 0 701 = _
  unfold gf_Law_back_b0
  rw [h]
  simp only [gf_ch]
  by_cases c : a = 0
  · rw [if_pos c, if_pos c]
    unfold gf_Law_back_b14
    rw [if_neg (gv_o0 ho)]
    rfl
  · rw [if_neg c, if_neg c]
    unfold gf_Law_back_b14
    rw [if_neg (gv_o0 ho)]
    rfl
theorem lw_back_4 {F : Nat} {z : gw_Sh} {u w : gw_St} (h : gf_Desk_back F z u 0 = some (.inr 4, w)) : gf_Law_back F z u 0 701 = some (1, w) := by
  show gf_Law_back_b0 F z u 0 701 = _
  unfold gf_Law_back_b0
  rw [h]
  rfl
theorem lw_result_v {F : Nat} {z : gw_Sh} {u w : gw_St} {x1 x2 : Int32} {a : Int32} (h : gf_Desk_result F z u 0 x1 x2 = some (.inl a, w)) (ho : z.2.2 701 = 1) : gf_Law_result F z u 0 x1 x2 701 = some (0, gw_wl w 701 0 a.toInt64) := by
  show gf_Law_result_b0 F z u 0 x1 x2 701 = _
  unfold gf_Law_result_b0
  rw [h]
  simp only [gf_ch]
  rw [if_neg (gv_o0 ho)]
  rfl
theorem lw_result_3 {F : Nat} {z : gw_Sh} {u w : gw_St} {x1 x2 : Int32} (h : gf_Desk_result F z u 0 x1 x2 = some (.inr 3, w)) : gf_Law_result F z u 0 x1 x2 701 = some (1, w) := by
  show gf_Law_result_b0 F z u 0 x1 x2 701 = _
  unfold gf_Law_result_b0
  rw [h]
  rfl
/-! simple calls -/
theorem gs_within {F : Nat} {z : gw_Sh} {u : gw_St} {x a b : Int32} : gf_Model_within F z u x a b = some (if a.toInt ≤ x.toInt ∧ x.toInt ≤ b.toInt then 1 else 0, u) := by
  show gf_Model_within_b0 F z u x a b = _
  unfold gf_Model_within_b0 gf_Model_within_b14 gf_Model_within_b15
  by_cases h1 : x < a
  · have h1' := i32_lt.mp h1
    rw [if_pos h1, if_neg (by decide), if_neg (by omega)]
  · have h1' : ¬ x.toInt < a.toInt := fun q => h1 (i32_lt.mpr q)
    rw [if_neg h1]
    by_cases h2 : b < x
    · have h2' := i32_lt.mp h2
      rw [if_pos h2, if_neg (by decide), if_neg (by omega)]
    · have h2' : ¬ b.toInt < x.toInt := fun q => h2 (i32_lt.mpr q)
      rw [if_neg h2, if_neg (by decide), if_pos (by omega)]
theorem gs_fail {F : Nat} {z : gw_Sh} {u : gw_St} {t : Nat} {k : Int32} : gf_Model_fail F z u t k = some (0, gw_wi u t 0 k) := rfl
theorem gs_isGear {F : Nat} {z : gw_Sh} {u : gw_St} {x : Int32} {n : Nat} (hn : n ≤ 60) (h : u.1 670 18 = Int32.ofNat n) : gf_Model_isGear F z u 670 x = some (if 0 ≤ x.toInt ∧ x.toInt < n then 1 else 0, u) := by
  show gf_Model_isGear_b0 F z u 670 x = _
  unfold gf_Model_isGear_b0
  have e : ((u.1 670 18) - (1 : Int32)).toInt = (n : Int) - 1 := by
    have e1 : (1 : Int32).toInt = 1 := rfl
    rw [h, n32_sub (by rw [i32_nat (by omega), e1]; omega) (by rw [i32_nat (by omega), e1]; omega), i32_nat (by omega), e1]
  have e0 : (0 : Int32).toInt = 0 := rfl
  rw [gs_within, e, e0]
  simp only [gf_cl]
  by_cases c : 0 ≤ x.toInt ∧ x.toInt < n
  · rw [if_pos (show 0 ≤ x.toInt ∧ x.toInt ≤ (n : Int) - 1 by omega), if_pos c, if_neg (by decide)]
  · rw [if_neg (show ¬ (0 ≤ x.toInt ∧ x.toInt ≤ (n : Int) - 1) by omega), if_neg c, if_neg (by decide)]
/-- refs that never change: all but the two speeds, the two lists of choices, the two numbers of the equations -/
def gv_fix (p k : Nat) : Bool := !((p == 0 && (k == 7 || k == 8)) || (p == 1 && (k == 0 || k == 1)) || (p == 22 && (k == 11 || k == 12)))
def gv_Rf (u : gw_St) : Prop := ∀ p k, gv_fix p k = true → u.2.2 p k = gv_u.2.2 p k
theorem gv_Rf.get {u : gw_St} (h : gv_Rf u) {p k q : Nat} (h1 : gv_fix p k = true) (h2 : gv_u.2.2 p k = q) : u.2.2 p k = q := (h p k h1).trans h2
theorem gv_Rf.eq {u w : gw_St} (h : gv_Rf u) (e : w.2.2 = u.2.2) : gv_Rf w := fun p k hf => by rw [e]; exact h p k hf
/-- nothing outside of S is changed -/
def gv_off (S : Nat → Nat → Bool) (u w : gw_St) : Prop := (∀ p k, S p k = false → w.1 p k = u.1 p k ∧ w.2.1 p k = u.2.1 p k) ∧ w.2.2 = u.2.2
/-- gears, relations and the crank: class and reference hold the same -/
def gv_Wk (u : gw_St) (n r : Nat) : Prop := n ≤ 60 ∧ r ≤ 120 ∧ u.1 6 2 = Int32.ofNat n ∧ u.1 670 18 = Int32.ofNat n ∧ u.1 6 3 = Int32.ofNat r ∧ u.1 670 19 = Int32.ofNat r ∧
  (∀ g, g < n → u.1 674 g = u.1 7 g ∧ 4 ≤ (u.1 7 g).toInt ∧ (u.1 7 g).toInt ≤ 1000) ∧
  (∀ j, j < r → u.1 675 j = u.1 8 (4 * j) ∧ u.1 676 j = u.1 8 (4 * j + 1) ∧ u.1 677 j = u.1 8 (4 * j + 2) ∧ u.1 678 j = u.1 8 (4 * j + 3) ∧
    0 ≤ (u.1 8 (4 * j)).toInt ∧ (u.1 8 (4 * j)).toInt ≤ 3 ∧ 0 ≤ (u.1 8 (4 * j + 1)).toInt ∧ (u.1 8 (4 * j + 1)).toInt < n ∧ 0 ≤ (u.1 8 (4 * j + 2)).toInt ∧ (u.1 8 (4 * j + 2)).toInt < n ∧ u.1 8 (4 * j + 1) ≠ u.1 8 (4 * j + 2) ∧
    (u.1 8 (4 * j) = 3 → 0 ≤ (u.1 8 (4 * j + 3)).toInt ∧ (u.1 8 (4 * j + 3)).toInt < n ∧ u.1 8 (4 * j + 1) ≠ u.1 8 (4 * j + 3) ∧ u.1 8 (4 * j + 2) ≠ u.1 8 (4 * j + 3)) ∧ (u.1 8 (4 * j) ≠ 3 → u.1 8 (4 * j + 3) = -1) ∧
    (u.1 8 (4 * j) = 1 → (u.1 7 (u.1 8 (4 * j + 1)).toNatClampNeg).toInt < (u.1 7 (u.1 8 (4 * j + 2)).toNatClampNeg).toInt)) ∧
  u.1 670 20 = u.1 6 4 ∧ -1 ≤ (u.1 6 4).toInt ∧ (u.1 6 4).toInt < n
theorem gv_r0_1 : gv_u.2.2 0 1 = 7 := by decide +kernel
theorem gv_zo : gv_z.2.2 701 = 1 := by decide +kernel
theorem gs_needGear {F : Nat} {z : gw_Sh} {u : gw_St} {x : Int32} {n : Nat} (hr : gv_Rf u) (hn : n ≤ 60) (h : u.1 6 2 = Int32.ofNat n) : gf_Desk_needGear F z u 0 x = some (if 0 ≤ x.toInt ∧ x.toInt < n then .inl () else .inr 3, u) := by
  show gf_Desk_needGear_b0 F z u 0 x = _
  unfold gf_Desk_needGear_b0 gf_Desk_needGear_b15
  have e0 : (0 : Int32).toInt = 0 := rfl
  by_cases h1 : x < 0
  · have h1' := i32_lt.mp h1
    rw [if_pos h1, if_neg (by omega)]
  · have h1' : ¬ x.toInt < 0 := fun q => h1 (i32_lt.mpr q)
    rw [if_neg h1, hr.get rfl gv_r0_1]
    simp only [gf_nn]
    rw [h]
    by_cases h2 : x < Int32.ofNat n
    · have h2' := i32_lt.mp h2
      rw [i32_nat (by omega)] at h2'
      rw [if_pos h2, if_pos (by omega)]
    · have h2' : ¬ x.toInt < (Int32.ofNat n).toInt := fun q => h2 (i32_lt.mpr q)
      rw [i32_nat (by omega)] at h2'
      rw [if_neg h2, if_neg (by omega)]
def gv_S_crank (p k : Nat) : Bool := (p == 6 && k == 4) || (p == 670 && (k == 0 || k == 20)) || (p == 701 && k == 0)
def gv_T_wk (p k : Nat) : Bool := p == 7 || p == 8 || p == 674 || p == 675 || p == 676 || p == 677 || p == 678 || (p == 6 && (k == 2 || k == 3 || k == 4)) || (p == 670 && (k == 18 || k == 19 || k == 20))
theorem gv_Wk.same {u w : gw_St} {n r : Nat} (h : gv_Wk u n r) (e : ∀ p k, gv_T_wk p k = true → w.1 p k = u.1 p k) : gv_Wk w n r := by
  obtain ⟨w1, w2, w3, w4, w5, w6, w7, w8, w9, w10, w11⟩ := h
  have e7 : ∀ k, w.1 7 k = u.1 7 k := fun k => e 7 k rfl
  have e8 : ∀ k, w.1 8 k = u.1 8 k := fun k => e 8 k rfl
  have e4 : w.1 6 4 = u.1 6 4 := e 6 4 rfl
  refine ⟨w1, w2, (e 6 2 rfl).trans w3, (e 670 18 rfl).trans w4, (e 6 3 rfl).trans w5, (e 670 19 rfl).trans w6, fun g hg => ?_, fun j hj => ?_, ?_, ?_, ?_⟩
  · rw [e7, e 674 g rfl]; exact w7 g hg
  · rw [e8, e8, e8, e8, e 675 j rfl, e 676 j rfl, e 677 j rfl, e 678 j rfl, e7, e7]; exact w8 j hj
  · rw [e4, e 670 20 rfl]; exact w9
  · rw [e4]; exact w10
  · rw [e4]; exact w11
theorem gs_Dcrank1 {F : Nat} {z : gw_Sh} {u : gw_St} {n r : Nat} {x : Int32} (hr : gv_Rf u) (hw : gv_Wk u n r) (c : 0 ≤ x.toInt ∧ x.toInt < n) : gf_Desk_crank F z u 0 x = some (.inl (u.1 6 4), gw_wi u 6 4 x) := by
  show gf_Desk_crank_b0 F z u 0 x = _
  unfold gf_Desk_crank_b0
  rw [gs_needGear hr hw.1 hw.2.2.1, if_pos c]
  simp only [gf_ct, gf_nm]
  rw [hr.get rfl gv_r0_1]
  rfl
theorem gs_Dcrank2 {F : Nat} {z : gw_Sh} {u : gw_St} {n r : Nat} {x : Int32} (hr : gv_Rf u) (hw : gv_Wk u n r) (c : ¬ (0 ≤ x.toInt ∧ x.toInt < n)) : gf_Desk_crank F z u 0 x = some (.inr 3, u) := by
  show gf_Desk_crank_b0 F z u 0 x = _
  unfold gf_Desk_crank_b0
  rw [gs_needGear hr hw.1 hw.2.2.1, if_neg c]
  rfl
theorem gs_Mcrank1 {F : Nat} {z : gw_Sh} {w : gw_St} {n : Nat} {x : Int32} (hn : n ≤ 60) (h : w.1 670 18 = Int32.ofNat n) (c : 0 ≤ x.toInt ∧ x.toInt < n) : gf_Model_crank F z w 670 x = some (w.1 670 20, gw_wi (gw_wi w 670 0 0) 670 20 x) := by
  show gf_Model_crank_b0 F z w 670 x = _
  unfold gf_Model_crank_b0
  simp only [gf_nm]
  rw [gs_isGear hn (show (gw_wi w 670 0 0).1 670 18 = Int32.ofNat n from h), if_pos c]
  rfl
theorem gs_Mcrank2 {F : Nat} {z : gw_Sh} {w : gw_St} {n : Nat} {x : Int32} (hn : n ≤ 60) (h : w.1 670 18 = Int32.ofNat n) (c : ¬ (0 ≤ x.toInt ∧ x.toInt < n)) : gf_Model_crank F z w 670 x = some (0, gw_wi (gw_wi w 670 0 0) 670 0 1) := by
  show gf_Model_crank_b0 F z w 670 x = _
  unfold gf_Model_crank_b0
  simp only [gf_nm]
  rw [gs_isGear hn (show (gw_wi w 670 0 0).1 670 18 = Int32.ofNat n from h), if_neg c]
  rfl
/-- what a call leaves: answers alike, the refs, gears and relations as they must be, nothing else changed -/
def gv_Op {β : Type} (S : Nat → Nat → Bool) (u : gw_St) (n r : Nat) (lw : Option (Int32 × gw_St)) (md : gw_St → Option (β × gw_St)) (cmp : gw_St → β → Prop) : Prop := ∃ k a u1 u2, lw = some (k, u1) ∧ md u1 = some (a, u2) ∧ u2.1 670 0 = k ∧ (k = 0 → cmp u2 a) ∧ gv_Wk u2 n r ∧ gv_off S u u2
theorem gs_crank {F : Nat} {u : gw_St} {n r : Nat} (hr : gv_Rf u) (hw : gv_Wk u n r) (x : Int32) : gv_Op gv_S_crank u n r (gf_Law_crank F gv_z u 0 x 701) (fun w => gf_Model_crank F gv_z w 670 x) (fun w a => lg_cmp (w.2.1 701 0) a.toInt64 = 0) := by
  obtain ⟨w1, w2, w3, w4, w5, w6, w7, w8, w9, w10, w11⟩ := id hw
  by_cases c : 0 ≤ x.toInt ∧ x.toInt < n
  · refine ⟨_, _, _, _, lw_crank_v (gs_Dcrank1 hr hw c) gv_zo, gs_Mcrank1 w1 w4 c, rfl, fun _ => ?_, ?_, ?_, rfl⟩
    · show lg_cmp (u.1 6 4).toInt64 (u.1 670 20).toInt64 = 0
      rw [w9]
      exact lgc_zero.mpr rfl
    · refine ⟨w1, w2, w3, w4, w5, w6, w7, w8, rfl, ?_, ?_⟩
      · show -1 ≤ x.toInt
        omega
      · exact c.2
    · intro p k hS
      simp only [gv_S_crank, Bool.or_eq_false_iff, Bool.and_eq_false_iff, beq_eq_false_iff_ne, ne_eq] at hS
      constructor
      · simp only [gw_wi, gw_wl]
        rw [if_neg (by omega), if_neg (by omega), if_neg (by omega)]
      · simp only [gw_wi, gw_wl]
        rw [if_neg (by omega)]
  · refine ⟨_, _, _, _, lw_crank_3 (gs_Dcrank2 hr hw c), gs_Mcrank2 w1 w4 c, rfl, fun q => absurd q (by decide), hw.same (fun p k h => ?_), ?_, rfl⟩
    · simp only [gv_T_wk, Bool.or_eq_true, Bool.and_eq_true, beq_iff_eq] at h
      simp only [gw_wi]
      rw [if_neg (by omega), if_neg (by omega)]
    · intro p k hS
      simp only [gv_S_crank, Bool.or_eq_false_iff, Bool.and_eq_false_iff, beq_eq_false_iff_ne, ne_eq] at hS
      constructor
      · simp only [gw_wi]
        rw [if_neg (by omega), if_neg (by omega)]
      · rfl
