-- GearDeskModel.quotientOf(II)V
def gy_Model_quotientOf : MethodName := ⟨R_Model, "quotientOf", "(II)V"⟩
abbrev gb_Model_quotientOf : ByteArray := prog_11_method_59_code
theorem gk_577 : Cond.code gy_Model_quotientOf gb_Model_quotientOf 3 none ∈ gt_T := gt_m7 (List.mem_of_getElem? (i := 230) rfl) rfl
def gr_Model_quotientOf : Room := gw_rm 4 140
theorem gm_Model_quotientOf : gw_Mth gy_Model_quotientOf gb_Model_quotientOf 3 none 2 := ⟨gk_577, gk_377, ⟨by decide +kernel, by decide +kernel⟩, by decide +kernel⟩
theorem gd_Model_quotientOf_0 : decode gb_Model_quotientOf 0 = .ok (.aload_n 0, 1) := by decide +kernel
theorem gd_Model_quotientOf_1 : decode gb_Model_quotientOf 1 = .ok (.bipush 13, 2) := by decide +kernel
theorem gd_Model_quotientOf_3 : decode gb_Model_quotientOf 3 = .ok (.lconst 0, 1) := by decide +kernel
theorem gd_Model_quotientOf_4 : decode gb_Model_quotientOf 4 = .ok (.invokevirtual 293, 3) := by decide +kernel
theorem gd_Model_quotientOf_7 : decode gb_Model_quotientOf 7 = .ok (.aload_n 0, 1) := by decide +kernel
theorem gd_Model_quotientOf_8 : decode gb_Model_quotientOf 8 = .ok (.bipush 15, 2) := by decide +kernel
theorem gd_Model_quotientOf_10 : decode gb_Model_quotientOf 10 = .ok (.lconst 1, 1) := by decide +kernel
theorem gd_Model_quotientOf_11 : decode gb_Model_quotientOf 11 = .ok (.invokevirtual 293, 3) := by decide +kernel
theorem gd_Model_quotientOf_14 : decode gb_Model_quotientOf 14 = .ok (.aload_n 0, 1) := by decide +kernel
theorem gd_Model_quotientOf_15 : decode gb_Model_quotientOf 15 = .ok (.iload_n 1, 1) := by decide +kernel
theorem gd_Model_quotientOf_16 : decode gb_Model_quotientOf 16 = .ok (.iload_n 2, 1) := by decide +kernel
theorem gd_Model_quotientOf_17 : decode gb_Model_quotientOf 17 = .ok (.bipush 13, 2) := by decide +kernel
theorem gd_Model_quotientOf_19 : decode gb_Model_quotientOf 19 = .ok (.bipush 15, 2) := by decide +kernel
theorem gd_Model_quotientOf_21 : decode gb_Model_quotientOf 21 = .ok (.invokevirtual 296, 3) := by decide +kernel
theorem gd_Model_quotientOf_24 : decode gb_Model_quotientOf 24 = .ok (.aload_n 0, 1) := by decide +kernel
theorem gd_Model_quotientOf_25 : decode gb_Model_quotientOf 25 = .ok (.iload_n 1, 1) := by decide +kernel
theorem gd_Model_quotientOf_26 : decode gb_Model_quotientOf 26 = .ok (.bipush 13, 2) := by decide +kernel
theorem gd_Model_quotientOf_28 : decode gb_Model_quotientOf 28 = .ok (.invokevirtual 277, 3) := by decide +kernel
theorem gd_Model_quotientOf_31 : decode gb_Model_quotientOf 31 = .ok (.return_, 1) := by decide +kernel
def gf_Model_quotientOf_b0 (F : Nat) (z : gw_Sh)  (u : gw_St) (t0 : Nat) (x1 : Int32) (x2 : Int32) : Option gw_St :=
  (gf_Model_setWide F z u t0 (13 : Int32) (0 : Int64)).bind fun u1 => (gf_Model_setWide F z u1 t0 (15 : Int32) (1 : Int64)).bind fun u3 => (gf_Model_divide F z u3 t0 x1 x2 (13 : Int32) (15 : Int32)).bind fun u5 => (gf_Model_copyWide F z u5 t0 x1 (13 : Int32)).bind fun u7 => some u7
def gf_Model_quotientOf (F : Nat) (z : gw_Sh) (u : gw_St) (t0 : Nat) (x1 : Int32) (x2 : Int32) : Option gw_St := gf_Model_quotientOf_b0 F z  u t0 x1 x2
set_option maxHeartbeats 4000000 in
set_option maxRecDepth 20000 in
theorem gx_Model_quotientOf_b0 {p : Program} {l : Launch} {e : Env} {s : State} {m : MethodId} {args : Array Value} {below : List Frame} {meth : Method} {c : Code} {D : va_G} {cA : Nat → ClassId} {hs : Nat → Nat} {z : gw_Sh} (F : Nat) {r0 : gw_St} (C : gw_Cx p s m args c gb_Model_quotientOf 3 R_Model D cA) (hr : meth.sig.returnType = none) (hk : meth.locks = false) (u : gw_St) (t0 : Nat) (x1 : Int32) (x2 : Int32) (o_t0 : gw_ok z t0 9) {H : Heap} {locs : List Loc} {ls : Array Slot} (hW : gw_Wx D cA hs z s u H locs) (hl : lv_has ls 3 [(0, .ref (hs t0)), (1, .int x1), (2, .int x2)]) (h : gf_Model_quotientOf_b0 F z   u t0 x1 x2 = some r0) : gw_Gv p l e gr_Model_quotientOf s m args below meth c D cA hs z r0 H locs ls 0 [] := by
  obtain ⟨hx, hb, hml, hown, hts, hK⟩ := id C
  unfold gf_Model_quotientOf_b0 at h
  refine lv_aload_n hx hb gd_Model_quotientOf_0 rfl (lv_at hl 0 rfl) ?_
  refine lv_bipush (v := 13) hx hb gd_Model_quotientOf_1 (by decide) ?_
  refine lv_lconst (v := 0) hx hb gd_Model_quotientOf_3 (by decide) ?_
  obtain ⟨u1, d2, h⟩ := gf_bd_ok h
  refine gw_callVv (K := R_Model) (As := [.int (13 : Int32), .long (0 : Int64)]) (rest := []) C hW (fun _ h => Or.inr h) hl.1 gm_Model_setWide (gc_Model_setWide l F o_t0 d2 _) gk_570 gk_571 gk_572 o_t0 (by decide) rfl rfl rfl ⟨Nat.le_of_ble_eq_true rfl, Nat.le_of_ble_eq_true rfl⟩ ⟨Nat.zero_le _, Nat.zero_le _⟩ rfl rfl (Nat.le_of_ble_eq_true rfl) gd_Model_quotientOf_4 (fun H locs hW => ?_)
  refine lv_aload_n hx hb gd_Model_quotientOf_7 rfl (lv_at hl 0 rfl) ?_
  refine lv_bipush (v := 15) hx hb gd_Model_quotientOf_8 (by decide) ?_
  refine lv_lconst (v := 1) hx hb gd_Model_quotientOf_10 (by decide) ?_
  obtain ⟨u3, d4, h⟩ := gf_bd_ok h
  refine gw_callVv (K := R_Model) (As := [.int (15 : Int32), .long (1 : Int64)]) (rest := []) C hW (fun _ h => Or.inr h) hl.1 gm_Model_setWide (gc_Model_setWide l F o_t0 d4 _) gk_570 gk_571 gk_572 o_t0 (by decide) rfl rfl rfl ⟨Nat.le_of_ble_eq_true rfl, Nat.le_of_ble_eq_true rfl⟩ ⟨Nat.zero_le _, Nat.zero_le _⟩ rfl rfl (Nat.le_of_ble_eq_true rfl) gd_Model_quotientOf_11 (fun H locs hW => ?_)
  refine lv_aload_n hx hb gd_Model_quotientOf_14 rfl (lv_at hl 0 rfl) ?_
  refine lv_iload_n hx hb gd_Model_quotientOf_15 rfl (lv_at hl 1 rfl) ?_
  refine lv_iload_n hx hb gd_Model_quotientOf_16 rfl (lv_at hl 2 rfl) ?_
  refine lv_bipush (v := 13) hx hb gd_Model_quotientOf_17 (by decide) ?_
  refine lv_bipush (v := 15) hx hb gd_Model_quotientOf_19 (by decide) ?_
  obtain ⟨u5, d6, h⟩ := gf_bd_ok h
  refine gw_callVv (K := R_Model) (As := [.int x1, .int x2, .int (13 : Int32), .int (15 : Int32)]) (rest := []) C hW (fun _ h => Or.inr h) hl.1 gm_Model_divide (gc_Model_divide l F o_t0 d6 _) gk_573 gk_574 gk_575 o_t0 (by decide) rfl rfl rfl ⟨Nat.le_of_ble_eq_true rfl, Nat.le_of_ble_eq_true rfl⟩ ⟨Nat.zero_le _, Nat.zero_le _⟩ rfl rfl (Nat.le_of_ble_eq_true rfl) gd_Model_quotientOf_21 (fun H locs hW => ?_)
  refine lv_aload_n hx hb gd_Model_quotientOf_24 rfl (lv_at hl 0 rfl) ?_
  refine lv_iload_n hx hb gd_Model_quotientOf_25 rfl (lv_at hl 1 rfl) ?_
  refine lv_bipush (v := 13) hx hb gd_Model_quotientOf_26 (by decide) ?_
  obtain ⟨u7, d8, h⟩ := gf_bd_ok h
  refine gw_callVv (K := R_Model) (As := [.int x1, .int (13 : Int32)]) (rest := []) C hW (fun _ h => Or.inr h) hl.1 gm_Model_copyWide (gc_Model_copyWide l F o_t0 d8 _) gk_566 gk_567 gk_568 o_t0 (by decide) rfl rfl rfl ⟨Nat.le_of_ble_eq_true rfl, Nat.le_of_ble_eq_true rfl⟩ ⟨Nat.zero_le _, Nat.zero_le _⟩ rfl rfl (Nat.le_of_ble_eq_true rfl) gd_Model_quotientOf_28 (fun H locs hW => ?_)
  obtain rfl := Option.some.inj h
  exact gw_vret C hW hr hk gd_Model_quotientOf_31

set_option maxRecDepth 20000 in
theorem gc_Model_quotientOf (l : Launch) {D : va_G} {cA : Nat → ClassId} {hs : Nat → Nat} {z : gw_Sh} (F : Nat) {u : gw_St} {r0 : gw_St} {t0 : Nat} {x1 : Int32} {x2 : Int32} (o_t0 : gw_ok z t0 9) (h : gf_Model_quotientOf F z u t0 x1 x2 = some r0) (sz : Nat) : gw_Mv l gy_Model_quotientOf gb_Model_quotientOf 3 none gr_Model_quotientOf [.ref (hs t0), .int x1, .int x2] D cA hs z u sz r0 := by
  refine gw_enter (by decide) (Nat.le_of_ble_eq_true rfl) ?_
  intro p e s m below meth c ls hsz C hW hr hk _ hl
  subst hsz
  exact gx_Model_quotientOf_b0 F C hr hk u t0 x1 x2 o_t0 hW (lv_sub hl [0, 1, 2] rfl) h
-- GearDeskModel.lowest(II)V
theorem gk_578 : Cond.methodLink R_Model 300 gy_Model_greatest ∈ gt_T := gt_m7 (List.mem_of_getElem? (i := 223) rfl) rfl
theorem gk_579 : Cond.instanceMethod gy_Model_greatest ∈ gt_T := gt_m7 (List.mem_of_getElem? (i := 225) rfl) rfl
theorem gk_580 : Cond.selects R_Model gy_Model_greatest gy_Model_greatest ∈ gt_T := gt_p5 (List.mem_of_getElem? (i := 10) rfl) rfl
theorem gk_581 : Cond.methodLink R_Model 303 gy_Model_quotientOf ∈ gt_T := gt_m7 (List.mem_of_getElem? (i := 227) rfl) rfl
theorem gk_582 : Cond.instanceMethod gy_Model_quotientOf ∈ gt_T := gt_m7 (List.mem_of_getElem? (i := 229) rfl) rfl
theorem gk_583 : Cond.selects R_Model gy_Model_quotientOf gy_Model_quotientOf ∈ gt_T := gt_p5 (List.mem_of_getElem? (i := 11) rfl) rfl
def gy_Model_lowest : MethodName := ⟨R_Model, "lowest", "(II)V"⟩
abbrev gb_Model_lowest : ByteArray := prog_11_method_58_code
theorem gk_584 : Cond.code gy_Model_lowest gb_Model_lowest 3 none ∈ gt_T := gt_m7 (List.mem_of_getElem? (i := 222) rfl) rfl
def gr_Model_lowest : Room := gw_rm 5 162
theorem gm_Model_lowest : gw_Mth gy_Model_lowest gb_Model_lowest 3 none 2 := ⟨gk_584, gk_377, ⟨by decide +kernel, by decide +kernel⟩, by decide +kernel⟩
theorem gd_Model_lowest_0 : decode gb_Model_lowest 0 = .ok (.aload_n 0, 1) := by decide +kernel
theorem gd_Model_lowest_1 : decode gb_Model_lowest 1 = .ok (.bipush 14, 2) := by decide +kernel
theorem gd_Model_lowest_3 : decode gb_Model_lowest 3 = .ok (.iload_n 1, 1) := by decide +kernel
theorem gd_Model_lowest_4 : decode gb_Model_lowest 4 = .ok (.invokevirtual 277, 3) := by decide +kernel
theorem gd_Model_lowest_7 : decode gb_Model_lowest 7 = .ok (.aload_n 0, 1) := by decide +kernel
theorem gd_Model_lowest_8 : decode gb_Model_lowest 8 = .ok (.bipush 15, 2) := by decide +kernel
theorem gd_Model_lowest_10 : decode gb_Model_lowest 10 = .ok (.iload_n 2, 1) := by decide +kernel
theorem gd_Model_lowest_11 : decode gb_Model_lowest 11 = .ok (.invokevirtual 277, 3) := by decide +kernel
theorem gd_Model_lowest_14 : decode gb_Model_lowest 14 = .ok (.aload_n 0, 1) := by decide +kernel
theorem gd_Model_lowest_15 : decode gb_Model_lowest 15 = .ok (.bipush 14, 2) := by decide +kernel
theorem gd_Model_lowest_17 : decode gb_Model_lowest 17 = .ok (.bipush 15, 2) := by decide +kernel
theorem gd_Model_lowest_19 : decode gb_Model_lowest 19 = .ok (.invokevirtual 300, 3) := by decide +kernel
theorem gd_Model_lowest_22 : decode gb_Model_lowest 22 = .ok (.aload_n 0, 1) := by decide +kernel
theorem gd_Model_lowest_23 : decode gb_Model_lowest 23 = .ok (.iload_n 1, 1) := by decide +kernel
theorem gd_Model_lowest_24 : decode gb_Model_lowest 24 = .ok (.bipush 14, 2) := by decide +kernel
theorem gd_Model_lowest_26 : decode gb_Model_lowest 26 = .ok (.invokevirtual 303, 3) := by decide +kernel
theorem gd_Model_lowest_29 : decode gb_Model_lowest 29 = .ok (.aload_n 0, 1) := by decide +kernel
theorem gd_Model_lowest_30 : decode gb_Model_lowest 30 = .ok (.iload_n 2, 1) := by decide +kernel
theorem gd_Model_lowest_31 : decode gb_Model_lowest 31 = .ok (.bipush 14, 2) := by decide +kernel
theorem gd_Model_lowest_33 : decode gb_Model_lowest 33 = .ok (.invokevirtual 303, 3) := by decide +kernel
theorem gd_Model_lowest_36 : decode gb_Model_lowest 36 = .ok (.return_, 1) := by decide +kernel
def gf_Model_lowest_b0 (F : Nat) (z : gw_Sh)  (u : gw_St) (t0 : Nat) (x1 : Int32) (x2 : Int32) : Option gw_St :=
  (gf_Model_copyWide F z u t0 (14 : Int32) x1).bind fun u1 => (gf_Model_copyWide F z u1 t0 (15 : Int32) x2).bind fun u3 => (gf_Model_greatest F z u3 t0 (14 : Int32) (15 : Int32)).bind fun u5 => (gf_Model_quotientOf F z u5 t0 x1 (14 : Int32)).bind fun u7 => (gf_Model_quotientOf F z u7 t0 x2 (14 : Int32)).bind fun u9 => some u9
def gf_Model_lowest (F : Nat) (z : gw_Sh) (u : gw_St) (t0 : Nat) (x1 : Int32) (x2 : Int32) : Option gw_St := gf_Model_lowest_b0 F z  u t0 x1 x2
set_option maxHeartbeats 4000000 in
set_option maxRecDepth 20000 in
theorem gx_Model_lowest_b0 {p : Program} {l : Launch} {e : Env} {s : State} {m : MethodId} {args : Array Value} {below : List Frame} {meth : Method} {c : Code} {D : va_G} {cA : Nat → ClassId} {hs : Nat → Nat} {z : gw_Sh} (F : Nat) {r0 : gw_St} (C : gw_Cx p s m args c gb_Model_lowest 3 R_Model D cA) (hr : meth.sig.returnType = none) (hk : meth.locks = false) (u : gw_St) (t0 : Nat) (x1 : Int32) (x2 : Int32) (o_t0 : gw_ok z t0 9) {H : Heap} {locs : List Loc} {ls : Array Slot} (hW : gw_Wx D cA hs z s u H locs) (hl : lv_has ls 3 [(0, .ref (hs t0)), (1, .int x1), (2, .int x2)]) (h : gf_Model_lowest_b0 F z   u t0 x1 x2 = some r0) : gw_Gv p l e gr_Model_lowest s m args below meth c D cA hs z r0 H locs ls 0 [] := by
  obtain ⟨hx, hb, hml, hown, hts, hK⟩ := id C
  unfold gf_Model_lowest_b0 at h
  refine lv_aload_n hx hb gd_Model_lowest_0 rfl (lv_at hl 0 rfl) ?_
  refine lv_bipush (v := 14) hx hb gd_Model_lowest_1 (by decide) ?_
  refine lv_iload_n hx hb gd_Model_lowest_3 rfl (lv_at hl 1 rfl) ?_
  obtain ⟨u1, d2, h⟩ := gf_bd_ok h
  refine gw_callVv (K := R_Model) (As := [.int (14 : Int32), .int x1]) (rest := []) C hW (fun _ h => Or.inr h) hl.1 gm_Model_copyWide (gc_Model_copyWide l F o_t0 d2 _) gk_566 gk_567 gk_568 o_t0 (by decide) rfl rfl rfl ⟨Nat.le_of_ble_eq_true rfl, Nat.le_of_ble_eq_true rfl⟩ ⟨Nat.zero_le _, Nat.zero_le _⟩ rfl rfl (Nat.le_of_ble_eq_true rfl) gd_Model_lowest_4 (fun H locs hW => ?_)
  refine lv_aload_n hx hb gd_Model_lowest_7 rfl (lv_at hl 0 rfl) ?_
  refine lv_bipush (v := 15) hx hb gd_Model_lowest_8 (by decide) ?_
  refine lv_iload_n hx hb gd_Model_lowest_10 rfl (lv_at hl 2 rfl) ?_
  obtain ⟨u3, d4, h⟩ := gf_bd_ok h
  refine gw_callVv (K := R_Model) (As := [.int (15 : Int32), .int x2]) (rest := []) C hW (fun _ h => Or.inr h) hl.1 gm_Model_copyWide (gc_Model_copyWide l F o_t0 d4 _) gk_566 gk_567 gk_568 o_t0 (by decide) rfl rfl rfl ⟨Nat.le_of_ble_eq_true rfl, Nat.le_of_ble_eq_true rfl⟩ ⟨Nat.zero_le _, Nat.zero_le _⟩ rfl rfl (Nat.le_of_ble_eq_true rfl) gd_Model_lowest_11 (fun H locs hW => ?_)
  refine lv_aload_n hx hb gd_Model_lowest_14 rfl (lv_at hl 0 rfl) ?_
  refine lv_bipush (v := 14) hx hb gd_Model_lowest_15 (by decide) ?_
  refine lv_bipush (v := 15) hx hb gd_Model_lowest_17 (by decide) ?_
  obtain ⟨u5, d6, h⟩ := gf_bd_ok h
  refine gw_callVv (K := R_Model) (As := [.int (14 : Int32), .int (15 : Int32)]) (rest := []) C hW (fun _ h => Or.inr h) hl.1 gm_Model_greatest (gc_Model_greatest l F o_t0 d6 _) gk_578 gk_579 gk_580 o_t0 (by decide) rfl rfl rfl ⟨Nat.le_of_ble_eq_true rfl, Nat.le_of_ble_eq_true rfl⟩ ⟨Nat.zero_le _, Nat.zero_le _⟩ rfl rfl (Nat.le_of_ble_eq_true rfl) gd_Model_lowest_19 (fun H locs hW => ?_)
  refine lv_aload_n hx hb gd_Model_lowest_22 rfl (lv_at hl 0 rfl) ?_
  refine lv_iload_n hx hb gd_Model_lowest_23 rfl (lv_at hl 1 rfl) ?_
  refine lv_bipush (v := 14) hx hb gd_Model_lowest_24 (by decide) ?_
  obtain ⟨u7, d8, h⟩ := gf_bd_ok h
  refine gw_callVv (K := R_Model) (As := [.int x1, .int (14 : Int32)]) (rest := []) C hW (fun _ h => Or.inr h) hl.1 gm_Model_quotientOf (gc_Model_quotientOf l F o_t0 d8 _) gk_581 gk_582 gk_583 o_t0 (by decide) rfl rfl rfl ⟨Nat.le_of_ble_eq_true rfl, Nat.le_of_ble_eq_true rfl⟩ ⟨Nat.zero_le _, Nat.zero_le _⟩ rfl rfl (Nat.le_of_ble_eq_true rfl) gd_Model_lowest_26 (fun H locs hW => ?_)
  refine lv_aload_n hx hb gd_Model_lowest_29 rfl (lv_at hl 0 rfl) ?_
  refine lv_iload_n hx hb gd_Model_lowest_30 rfl (lv_at hl 2 rfl) ?_
  refine lv_bipush (v := 14) hx hb gd_Model_lowest_31 (by decide) ?_
  obtain ⟨u9, d10, h⟩ := gf_bd_ok h
  refine gw_callVv (K := R_Model) (As := [.int x2, .int (14 : Int32)]) (rest := []) C hW (fun _ h => Or.inr h) hl.1 gm_Model_quotientOf (gc_Model_quotientOf l F o_t0 d10 _) gk_581 gk_582 gk_583 o_t0 (by decide) rfl rfl rfl ⟨Nat.le_of_ble_eq_true rfl, Nat.le_of_ble_eq_true rfl⟩ ⟨Nat.zero_le _, Nat.zero_le _⟩ rfl rfl (Nat.le_of_ble_eq_true rfl) gd_Model_lowest_33 (fun H locs hW => ?_)
  obtain rfl := Option.some.inj h
  exact gw_vret C hW hr hk gd_Model_lowest_36

set_option maxRecDepth 20000 in
theorem gc_Model_lowest (l : Launch) {D : va_G} {cA : Nat → ClassId} {hs : Nat → Nat} {z : gw_Sh} (F : Nat) {u : gw_St} {r0 : gw_St} {t0 : Nat} {x1 : Int32} {x2 : Int32} (o_t0 : gw_ok z t0 9) (h : gf_Model_lowest F z u t0 x1 x2 = some r0) (sz : Nat) : gw_Mv l gy_Model_lowest gb_Model_lowest 3 none gr_Model_lowest [.ref (hs t0), .int x1, .int x2] D cA hs z u sz r0 := by
  refine gw_enter (by decide) (Nat.le_of_ble_eq_true rfl) ?_
  intro p e s m below meth c ls hsz C hW hr hk _ hl
  subst hsz
  exact gx_Model_lowest_b0 F C hr hk u t0 x1 x2 o_t0 hW (lv_sub hl [0, 1, 2] rfl) h
-- GearDeskModel.isLarge(I)Z
def gy_Model_isLarge : MethodName := ⟨R_Model, "isLarge", "(I)Z"⟩
abbrev gb_Model_isLarge : ByteArray := prog_11_method_60_code
theorem gk_585 : Cond.code gy_Model_isLarge gb_Model_isLarge 2 (some .boolean) ∈ gt_T := gt_m7 (List.mem_of_getElem? (i := 190) rfl) rfl
def gr_Model_isLarge : Room := gw_rm 3 109
theorem gm_Model_isLarge : gw_Mth gy_Model_isLarge gb_Model_isLarge 2 (some .boolean) 1 := ⟨gk_585, gk_377, ⟨by decide +kernel, by decide +kernel⟩, by decide +kernel⟩
theorem gd_Model_isLarge_0 : decode gb_Model_isLarge 0 = .ok (.aload_n 0, 1) := by decide +kernel
theorem gd_Model_isLarge_1 : decode gb_Model_isLarge 1 = .ok (.iload_n 1, 1) := by decide +kernel
theorem gd_Model_isLarge_2 : decode gb_Model_isLarge 2 = .ok (.invokevirtual 274, 3) := by decide +kernel
theorem gd_Model_isLarge_5 : decode gb_Model_isLarge 5 = .ok (.sipush 256, 3) := by decide +kernel
theorem gd_Model_isLarge_8 : decode gb_Model_isLarge 8 = .ok (.if_icmp .le 7, 3) := by decide +kernel
theorem gd_Model_isLarge_11 : decode gb_Model_isLarge 11 = .ok (.iconst 1, 1) := by decide +kernel
theorem gd_Model_isLarge_12 : decode gb_Model_isLarge 12 = .ok (.goto 4, 3) := by decide +kernel
theorem gd_Model_isLarge_15 : decode gb_Model_isLarge 15 = .ok (.iconst 0, 1) := by decide +kernel
theorem gd_Model_isLarge_16 : decode gb_Model_isLarge 16 = .ok (.ireturn, 1) := by decide +kernel
def gf_Model_isLarge_b16 (F : Nat) (z : gw_Sh)  (u : gw_St) (sx0 : Int32) : Option (Int32 × gw_St) :=
  if ¬ (sx0 &&& 1 = sx0) then none else some (sx0, u)
def gf_Model_isLarge_b0 (F : Nat) (z : gw_Sh)  (u : gw_St) (t0 : Nat) (x1 : Int32) : Option (Int32 × gw_St) :=
  gf_cl (gf_Model_bits F z u t0 x1) fun a4 u2 => if a4 ≤ (256 : Int32) then (gf_Model_isLarge_b16 F z  u2 0) else (gf_Model_isLarge_b16 F z  u2 1)
def gf_Model_isLarge (F : Nat) (z : gw_Sh) (u : gw_St) (t0 : Nat) (x1 : Int32) : Option (Int32 × gw_St) := gf_Model_isLarge_b0 F z  u t0 x1
set_option maxHeartbeats 4000000 in
set_option maxRecDepth 20000 in
theorem gx_Model_isLarge_b16 {p : Program} {l : Launch} {e : Env} {s : State} {m : MethodId} {args : Array Value} {below : List Frame} {meth : Method} {c : Code} {D : va_G} {cA : Nat → ClassId} {hs : Nat → Nat} {z : gw_Sh} (F : Nat) {r0 : (Int32 × gw_St)} (C : gw_Cx p s m args c gb_Model_isLarge 2 R_Model D cA) (hr : meth.sig.returnType = (some .boolean)) (hk : meth.locks = false) (u : gw_St) (sx0 : Int32)  {H : Heap} {locs : List Loc} {ls : Array Slot} (hW : gw_Wx D cA hs z s u H locs) (hl : lv_has ls 2 []) (h : gf_Model_isLarge_b16 F z   u sx0 = some r0) : gw_Gi p l e gr_Model_isLarge s m args below meth c D cA hs z r0 H locs ls 16 [.int sx0] := by
  obtain ⟨hx, hb, hml, hown, hts, hK⟩ := id C
  unfold gf_Model_isLarge_b16 at h
  obtain ⟨g1, h⟩ := gf_if_ok h
  obtain rfl := Option.some.inj h
  exact gw_zret C hW hr (Decidable.not_not.mp g1) hk gd_Model_isLarge_16

set_option maxHeartbeats 4000000 in
set_option maxRecDepth 20000 in
theorem gx_Model_isLarge_b0 {p : Program} {l : Launch} {e : Env} {s : State} {m : MethodId} {args : Array Value} {below : List Frame} {meth : Method} {c : Code} {D : va_G} {cA : Nat → ClassId} {hs : Nat → Nat} {z : gw_Sh} (F : Nat) {r0 : (Int32 × gw_St)} (C : gw_Cx p s m args c gb_Model_isLarge 2 R_Model D cA) (hr : meth.sig.returnType = (some .boolean)) (hk : meth.locks = false) (u : gw_St) (t0 : Nat) (x1 : Int32) (o_t0 : gw_ok z t0 9) {H : Heap} {locs : List Loc} {ls : Array Slot} (hW : gw_Wx D cA hs z s u H locs) (hl : lv_has ls 2 [(0, .ref (hs t0)), (1, .int x1)]) (h : gf_Model_isLarge_b0 F z   u t0 x1 = some r0) : gw_Gi p l e gr_Model_isLarge s m args below meth c D cA hs z r0 H locs ls 0 [] := by
  obtain ⟨hx, hb, hml, hown, hts, hK⟩ := id C
  unfold gf_Model_isLarge_b0 at h
  refine lv_aload_n hx hb gd_Model_isLarge_0 rfl (lv_at hl 0 rfl) ?_
  refine lv_iload_n hx hb gd_Model_isLarge_1 rfl (lv_at hl 1 rfl) ?_
  obtain ⟨a4, u2, d3, h⟩ := gf_cl_ok h
  refine gw_callVi (K := R_Model) (As := [.int x1]) (rest := []) C hW (fun _ h => Or.inr h) hl.1 gm_Model_bits (gc_Model_bits l F o_t0 d3 _) gk_563 gk_564 gk_565 o_t0 (by decide) rfl rfl rfl ⟨Nat.le_of_ble_eq_true rfl, Nat.le_of_ble_eq_true rfl⟩ ⟨Nat.zero_le _, Nat.zero_le _⟩ rfl rfl (Nat.le_of_ble_eq_true rfl) gd_Model_isLarge_2 (fun H locs hW => ?_)
  refine lv_sipush (v := 256) hx hb gd_Model_isLarge_5 (by decide) ?_
  refine lv_icmp_le (tgt := 15) hx hb gd_Model_isLarge_8 (by decide) (fun c5 => ?_) (fun c5 => ?_)
  · have h := gf_t c5 h
    refine lv_iconst (v := 0) hx hb gd_Model_isLarge_15 (by decide) ?_
    exact gx_Model_isLarge_b16 F C hr hk  u2 0  hW (lv_sub hl [] rfl) h
  · have h := gf_f c5 h
    refine lv_iconst (v := 1) hx hb gd_Model_isLarge_11 (by decide) ?_
    refine lv_goto (tgt := 16) hx hb gd_Model_isLarge_12 (by decide) ?_
    exact gx_Model_isLarge_b16 F C hr hk  u2 1  hW (lv_sub hl [] rfl) h

set_option maxRecDepth 20000 in
theorem gc_Model_isLarge (l : Launch) {D : va_G} {cA : Nat → ClassId} {hs : Nat → Nat} {z : gw_Sh} (F : Nat) {u : gw_St} {r0 : (Int32 × gw_St)} {t0 : Nat} {x1 : Int32} (o_t0 : gw_ok z t0 9) (h : gf_Model_isLarge F z u t0 x1 = some r0) (sz : Nat) : gw_Mi l gy_Model_isLarge gb_Model_isLarge 2 (some .boolean) gr_Model_isLarge [.ref (hs t0), .int x1] D cA hs z u sz r0 := by
  refine gw_enter (by decide) (Nat.le_of_ble_eq_true rfl) ?_
  intro p e s m below meth c ls hsz C hW hr hk _ hl
  subst hsz
  exact gx_Model_isLarge_b0 F C hr hk u t0 x1 o_t0 hW (lv_sub hl [0, 1] rfl) h
-- GearDeskModel.rebuild(I)I
theorem gk_586 : Cond.methodLink R_Model 306 gy_Model_restSmall ∈ gt_T := gt_m7 (List.mem_of_getElem? (i := 142) rfl) rfl
theorem gk_587 : Cond.instanceMethod gy_Model_restSmall ∈ gt_T := gt_m7 (List.mem_of_getElem? (i := 144) rfl) rfl
theorem gk_588 : Cond.selects R_Model gy_Model_restSmall gy_Model_restSmall ∈ gt_T := gt_p4 (List.mem_of_getElem? (i := 10) rfl) rfl
theorem gk_589 : Cond.methodLink R_Model 310 gy_Model_timesSmall ∈ gt_T := gt_m7 (List.mem_of_getElem? (i := 151) rfl) rfl
theorem gk_590 : Cond.instanceMethod gy_Model_timesSmall ∈ gt_T := gt_m7 (List.mem_of_getElem? (i := 153) rfl) rfl
theorem gk_591 : Cond.selects R_Model gy_Model_timesSmall gy_Model_timesSmall ∈ gt_T := gt_p4 (List.mem_of_getElem? (i := 12) rfl) rfl
def gy_Model_rebuild : MethodName := ⟨R_Model, "rebuild", "(I)I"⟩
abbrev gb_Model_rebuild : ByteArray := prog_11_method_61_code
theorem gk_592 : Cond.code gy_Model_rebuild gb_Model_rebuild 10 (some .int) ∈ gt_T := gt_m7 (List.mem_of_getElem? (i := 132) rfl) rfl
def gr_Model_rebuild : Room := gw_rm 4 140
theorem gm_Model_rebuild : gw_Mth gy_Model_rebuild gb_Model_rebuild 10 (some .int) 1 := ⟨gk_592, gk_377, ⟨by decide +kernel, by decide +kernel⟩, by decide +kernel⟩
theorem gd_Model_rebuild_0 : decode gb_Model_rebuild 0 = .ok (.aload_n 0, 1) := by decide +kernel
theorem gd_Model_rebuild_1 : decode gb_Model_rebuild 1 = .ok (.iconst 0, 1) := by decide +kernel
theorem gd_Model_rebuild_2 : decode gb_Model_rebuild 2 = .ok (.lconst 0, 1) := by decide +kernel
theorem gd_Model_rebuild_3 : decode gb_Model_rebuild 3 = .ok (.invokevirtual 293, 3) := by decide +kernel
theorem gd_Model_rebuild_6 : decode gb_Model_rebuild 6 = .ok (.aload_n 0, 1) := by decide +kernel
theorem gd_Model_rebuild_7 : decode gb_Model_rebuild 7 = .ok (.iconst 1, 1) := by decide +kernel
theorem gd_Model_rebuild_8 : decode gb_Model_rebuild 8 = .ok (.lconst 1, 1) := by decide +kernel
theorem gd_Model_rebuild_9 : decode gb_Model_rebuild 9 = .ok (.invokevirtual 293, 3) := by decide +kernel
theorem gd_Model_rebuild_12 : decode gb_Model_rebuild 12 = .ok (.iconst 0, 1) := by decide +kernel
theorem gd_Model_rebuild_13 : decode gb_Model_rebuild 13 = .ok (.istore_n 2, 1) := by decide +kernel
theorem gd_Model_rebuild_14 : decode gb_Model_rebuild 14 = .ok (.iconst 0, 1) := by decide +kernel
theorem gd_Model_rebuild_15 : decode gb_Model_rebuild 15 = .ok (.istore_n 3, 1) := by decide +kernel
theorem gd_Model_rebuild_16 : decode gb_Model_rebuild 16 = .ok (.iload_n 3, 1) := by decide +kernel
theorem gd_Model_rebuild_17 : decode gb_Model_rebuild 17 = .ok (.bipush 70, 2) := by decide +kernel
theorem gd_Model_rebuild_19 : decode gb_Model_rebuild 19 = .ok (.if_icmp .ge 119, 3) := by decide +kernel
theorem gd_Model_rebuild_22 : decode gb_Model_rebuild 22 = .ok (.iload_n 2, 1) := by decide +kernel
theorem gd_Model_rebuild_23 : decode gb_Model_rebuild 23 = .ok (.bipush 46, 2) := by decide +kernel
theorem gd_Model_rebuild_25 : decode gb_Model_rebuild 25 = .ok (.if_icmp .ge 113, 3) := by decide +kernel
theorem gd_Model_rebuild_28 : decode gb_Model_rebuild 28 = .ok (.aload_n 0, 1) := by decide +kernel
theorem gd_Model_rebuild_29 : decode gb_Model_rebuild 29 = .ok (.getfield 95, 3) := by decide +kernel
theorem gd_Model_rebuild_32 : decode gb_Model_rebuild 32 = .ok (.iload_n 3, 1) := by decide +kernel
theorem gd_Model_rebuild_33 : decode gb_Model_rebuild 33 = .ok (.baload, 1) := by decide +kernel
theorem gd_Model_rebuild_34 : decode gb_Model_rebuild 34 = .ok (.ifCond .eq 98, 3) := by decide +kernel
theorem gd_Model_rebuild_37 : decode gb_Model_rebuild 37 = .ok (.aload_n 0, 1) := by decide +kernel
theorem gd_Model_rebuild_38 : decode gb_Model_rebuild 38 = .ok (.getfield 76, 3) := by decide +kernel
theorem gd_Model_rebuild_41 : decode gb_Model_rebuild 41 = .ok (.iload_n 3, 1) := by decide +kernel
theorem gd_Model_rebuild_42 : decode gb_Model_rebuild 42 = .ok (.iaload, 1) := by decide +kernel
theorem gd_Model_rebuild_43 : decode gb_Model_rebuild 43 = .ok (.i2l, 1) := by decide +kernel
theorem gd_Model_rebuild_44 : decode gb_Model_rebuild 44 = .ok (.lstore 4, 2) := by decide +kernel
theorem gd_Model_rebuild_46 : decode gb_Model_rebuild 46 = .ok (.aload_n 0, 1) := by decide +kernel
theorem gd_Model_rebuild_47 : decode gb_Model_rebuild 47 = .ok (.getfield 101, 3) := by decide +kernel
theorem gd_Model_rebuild_50 : decode gb_Model_rebuild 50 = .ok (.bipush 60, 2) := by decide +kernel
theorem gd_Model_rebuild_52 : decode gb_Model_rebuild 52 = .ok (.iload_n 3, 1) := by decide +kernel
theorem gd_Model_rebuild_53 : decode gb_Model_rebuild 53 = .ok (.imul, 1) := by decide +kernel
theorem gd_Model_rebuild_54 : decode gb_Model_rebuild 54 = .ok (.iload_n 1, 1) := by decide +kernel
theorem gd_Model_rebuild_55 : decode gb_Model_rebuild 55 = .ok (.iadd, 1) := by decide +kernel
theorem gd_Model_rebuild_56 : decode gb_Model_rebuild 56 = .ok (.laload, 1) := by decide +kernel
theorem gd_Model_rebuild_57 : decode gb_Model_rebuild 57 = .ok (.aload_n 0, 1) := by decide +kernel
theorem gd_Model_rebuild_58 : decode gb_Model_rebuild 58 = .ok (.iconst 0, 1) := by decide +kernel
theorem gd_Model_rebuild_59 : decode gb_Model_rebuild 59 = .ok (.lload 4, 2) := by decide +kernel
theorem gd_Model_rebuild_61 : decode gb_Model_rebuild 61 = .ok (.invokevirtual 306, 3) := by decide +kernel
theorem gd_Model_rebuild_64 : decode gb_Model_rebuild 64 = .ok (.lsub, 1) := by decide +kernel
theorem gd_Model_rebuild_65 : decode gb_Model_rebuild 65 = .ok (.lload 4, 2) := by decide +kernel
theorem gd_Model_rebuild_67 : decode gb_Model_rebuild 67 = .ok (.lrem, 1) := by decide +kernel
theorem gd_Model_rebuild_68 : decode gb_Model_rebuild 68 = .ok (.lload 4, 2) := by decide +kernel
theorem gd_Model_rebuild_70 : decode gb_Model_rebuild 70 = .ok (.ladd, 1) := by decide +kernel
theorem gd_Model_rebuild_71 : decode gb_Model_rebuild 71 = .ok (.lload 4, 2) := by decide +kernel
theorem gd_Model_rebuild_73 : decode gb_Model_rebuild 73 = .ok (.lrem, 1) := by decide +kernel
theorem gd_Model_rebuild_74 : decode gb_Model_rebuild 74 = .ok (.lstore 6, 2) := by decide +kernel
theorem gd_Model_rebuild_76 : decode gb_Model_rebuild 76 = .ok (.lload 6, 2) := by decide +kernel
theorem gd_Model_rebuild_78 : decode gb_Model_rebuild 78 = .ok (.aload_n 0, 1) := by decide +kernel
theorem gd_Model_rebuild_79 : decode gb_Model_rebuild 79 = .ok (.iconst 1, 1) := by decide +kernel
theorem gd_Model_rebuild_80 : decode gb_Model_rebuild 80 = .ok (.lload 4, 2) := by decide +kernel
theorem gd_Model_rebuild_82 : decode gb_Model_rebuild 82 = .ok (.invokevirtual 306, 3) := by decide +kernel
theorem gd_Model_rebuild_85 : decode gb_Model_rebuild 85 = .ok (.lload 4, 2) := by decide +kernel
theorem gd_Model_rebuild_87 : decode gb_Model_rebuild 87 = .ok (.ldc2_w 117, 3) := by decide +kernel
theorem gd_Model_rebuild_90 : decode gb_Model_rebuild 90 = .ok (.lsub, 1) := by decide +kernel
theorem gd_Model_rebuild_91 : decode gb_Model_rebuild 91 = .ok (.lload 4, 2) := by decide +kernel
theorem gd_Model_rebuild_93 : decode gb_Model_rebuild 93 = .ok (.invokestatic 242, 3) := by decide +kernel
theorem gd_Model_rebuild_96 : decode gb_Model_rebuild 96 = .ok (.lmul, 1) := by decide +kernel
theorem gd_Model_rebuild_97 : decode gb_Model_rebuild 97 = .ok (.lload 4, 2) := by decide +kernel
theorem gd_Model_rebuild_99 : decode gb_Model_rebuild 99 = .ok (.lrem, 1) := by decide +kernel
theorem gd_Model_rebuild_100 : decode gb_Model_rebuild 100 = .ok (.lstore 8, 2) := by decide +kernel
theorem gd_Model_rebuild_102 : decode gb_Model_rebuild 102 = .ok (.aload_n 0, 1) := by decide +kernel
theorem gd_Model_rebuild_103 : decode gb_Model_rebuild 103 = .ok (.iconst 2, 1) := by decide +kernel
theorem gd_Model_rebuild_104 : decode gb_Model_rebuild 104 = .ok (.iconst 1, 1) := by decide +kernel
theorem gd_Model_rebuild_105 : decode gb_Model_rebuild 105 = .ok (.invokevirtual 277, 3) := by decide +kernel
theorem gd_Model_rebuild_108 : decode gb_Model_rebuild 108 = .ok (.aload_n 0, 1) := by decide +kernel
theorem gd_Model_rebuild_109 : decode gb_Model_rebuild 109 = .ok (.iconst 2, 1) := by decide +kernel
theorem gd_Model_rebuild_110 : decode gb_Model_rebuild 110 = .ok (.lload 8, 2) := by decide +kernel
theorem gd_Model_rebuild_112 : decode gb_Model_rebuild 112 = .ok (.invokevirtual 310, 3) := by decide +kernel
theorem gd_Model_rebuild_115 : decode gb_Model_rebuild 115 = .ok (.aload_n 0, 1) := by decide +kernel
theorem gd_Model_rebuild_116 : decode gb_Model_rebuild 116 = .ok (.iconst 0, 1) := by decide +kernel
theorem gd_Model_rebuild_117 : decode gb_Model_rebuild 117 = .ok (.iconst 2, 1) := by decide +kernel
theorem gd_Model_rebuild_118 : decode gb_Model_rebuild 118 = .ok (.iconst 0, 1) := by decide +kernel
theorem gd_Model_rebuild_119 : decode gb_Model_rebuild 119 = .ok (.invokevirtual 286, 3) := by decide +kernel
theorem gd_Model_rebuild_122 : decode gb_Model_rebuild 122 = .ok (.aload_n 0, 1) := by decide +kernel
theorem gd_Model_rebuild_123 : decode gb_Model_rebuild 123 = .ok (.iconst 1, 1) := by decide +kernel
theorem gd_Model_rebuild_124 : decode gb_Model_rebuild 124 = .ok (.lload 4, 2) := by decide +kernel
theorem gd_Model_rebuild_126 : decode gb_Model_rebuild 126 = .ok (.invokevirtual 310, 3) := by decide +kernel
theorem gd_Model_rebuild_129 : decode gb_Model_rebuild 129 = .ok (.iinc 2 1, 3) := by decide +kernel
theorem gd_Model_rebuild_132 : decode gb_Model_rebuild 132 = .ok (.iinc 3 1, 3) := by decide +kernel
theorem gd_Model_rebuild_135 : decode gb_Model_rebuild 135 = .ok (.goto (-119), 3) := by decide +kernel
theorem gd_Model_rebuild_138 : decode gb_Model_rebuild 138 = .ok (.aload_n 0, 1) := by decide +kernel
theorem gd_Model_rebuild_139 : decode gb_Model_rebuild 139 = .ok (.iconst 3, 1) := by decide +kernel
theorem gd_Model_rebuild_140 : decode gb_Model_rebuild 140 = .ok (.lconst 0, 1) := by decide +kernel
theorem gd_Model_rebuild_141 : decode gb_Model_rebuild 141 = .ok (.invokevirtual 293, 3) := by decide +kernel
theorem gd_Model_rebuild_144 : decode gb_Model_rebuild 144 = .ok (.aload_n 0, 1) := by decide +kernel
theorem gd_Model_rebuild_145 : decode gb_Model_rebuild 145 = .ok (.iconst 4, 1) := by decide +kernel
theorem gd_Model_rebuild_146 : decode gb_Model_rebuild 146 = .ok (.lconst 1, 1) := by decide +kernel
theorem gd_Model_rebuild_147 : decode gb_Model_rebuild 147 = .ok (.invokevirtual 293, 3) := by decide +kernel
theorem gd_Model_rebuild_150 : decode gb_Model_rebuild 150 = .ok (.iconst 1, 1) := by decide +kernel
theorem gd_Model_rebuild_151 : decode gb_Model_rebuild 151 = .ok (.istore_n 3, 1) := by decide +kernel
theorem gd_Model_rebuild_152 : decode gb_Model_rebuild 152 = .ok (.aload_n 0, 1) := by decide +kernel
theorem gd_Model_rebuild_153 : decode gb_Model_rebuild 153 = .ok (.iconst 0, 1) := by decide +kernel
theorem gd_Model_rebuild_154 : decode gb_Model_rebuild 154 = .ok (.invokevirtual 274, 3) := by decide +kernel
theorem gd_Model_rebuild_157 : decode gb_Model_rebuild 157 = .ok (.sipush 680, 3) := by decide +kernel
theorem gd_Model_rebuild_160 : decode gb_Model_rebuild 160 = .ok (.if_icmp .le 60, 3) := by decide +kernel
theorem gd_Model_rebuild_163 : decode gb_Model_rebuild 163 = .ok (.aload_n 0, 1) := by decide +kernel
theorem gd_Model_rebuild_164 : decode gb_Model_rebuild 164 = .ok (.iconst 1, 1) := by decide +kernel
theorem gd_Model_rebuild_165 : decode gb_Model_rebuild 165 = .ok (.iconst 0, 1) := by decide +kernel
theorem gd_Model_rebuild_166 : decode gb_Model_rebuild 166 = .ok (.iconst 3, 1) := by decide +kernel
theorem gd_Model_rebuild_167 : decode gb_Model_rebuild 167 = .ok (.iconst 4, 1) := by decide +kernel
theorem gd_Model_rebuild_168 : decode gb_Model_rebuild 168 = .ok (.invokevirtual 296, 3) := by decide +kernel
theorem gd_Model_rebuild_171 : decode gb_Model_rebuild 171 = .ok (.aload_n 0, 1) := by decide +kernel
theorem gd_Model_rebuild_172 : decode gb_Model_rebuild 172 = .ok (.iconst 2, 1) := by decide +kernel
theorem gd_Model_rebuild_173 : decode gb_Model_rebuild 173 = .ok (.iconst 1, 1) := by decide +kernel
theorem gd_Model_rebuild_174 : decode gb_Model_rebuild 174 = .ok (.invokevirtual 277, 3) := by decide +kernel
theorem gd_Model_rebuild_177 : decode gb_Model_rebuild 177 = .ok (.aload_n 0, 1) := by decide +kernel
theorem gd_Model_rebuild_178 : decode gb_Model_rebuild 178 = .ok (.iconst 1, 1) := by decide +kernel
theorem gd_Model_rebuild_179 : decode gb_Model_rebuild 179 = .ok (.iconst 0, 1) := by decide +kernel
theorem gd_Model_rebuild_180 : decode gb_Model_rebuild 180 = .ok (.invokevirtual 277, 3) := by decide +kernel
theorem gd_Model_rebuild_183 : decode gb_Model_rebuild 183 = .ok (.aload_n 0, 1) := by decide +kernel
theorem gd_Model_rebuild_184 : decode gb_Model_rebuild 184 = .ok (.iconst 0, 1) := by decide +kernel
theorem gd_Model_rebuild_185 : decode gb_Model_rebuild 185 = .ok (.iconst 2, 1) := by decide +kernel
theorem gd_Model_rebuild_186 : decode gb_Model_rebuild 186 = .ok (.invokevirtual 277, 3) := by decide +kernel
theorem gd_Model_rebuild_189 : decode gb_Model_rebuild 189 = .ok (.aload_n 0, 1) := by decide +kernel
theorem gd_Model_rebuild_190 : decode gb_Model_rebuild 190 = .ok (.iconst 2, 1) := by decide +kernel
theorem gd_Model_rebuild_191 : decode gb_Model_rebuild 191 = .ok (.iconst 3, 1) := by decide +kernel
theorem gd_Model_rebuild_192 : decode gb_Model_rebuild 192 = .ok (.invokevirtual 277, 3) := by decide +kernel
theorem gd_Model_rebuild_195 : decode gb_Model_rebuild 195 = .ok (.aload_n 0, 1) := by decide +kernel
theorem gd_Model_rebuild_196 : decode gb_Model_rebuild 196 = .ok (.iconst 3, 1) := by decide +kernel
theorem gd_Model_rebuild_197 : decode gb_Model_rebuild 197 = .ok (.iconst 4, 1) := by decide +kernel
theorem gd_Model_rebuild_198 : decode gb_Model_rebuild 198 = .ok (.invokevirtual 277, 3) := by decide +kernel
theorem gd_Model_rebuild_201 : decode gb_Model_rebuild 201 = .ok (.aload_n 0, 1) := by decide +kernel
theorem gd_Model_rebuild_202 : decode gb_Model_rebuild 202 = .ok (.iconst 4, 1) := by decide +kernel
theorem gd_Model_rebuild_203 : decode gb_Model_rebuild 203 = .ok (.iconst 2, 1) := by decide +kernel
theorem gd_Model_rebuild_204 : decode gb_Model_rebuild 204 = .ok (.invokevirtual 277, 3) := by decide +kernel
theorem gd_Model_rebuild_207 : decode gb_Model_rebuild 207 = .ok (.iload_n 3, 1) := by decide +kernel
theorem gd_Model_rebuild_208 : decode gb_Model_rebuild 208 = .ok (.ifCond .ne 7, 3) := by decide +kernel
theorem gd_Model_rebuild_211 : decode gb_Model_rebuild 211 = .ok (.iconst 1, 1) := by decide +kernel
theorem gd_Model_rebuild_212 : decode gb_Model_rebuild 212 = .ok (.goto 4, 3) := by decide +kernel
theorem gd_Model_rebuild_215 : decode gb_Model_rebuild 215 = .ok (.iconst 0, 1) := by decide +kernel
theorem gd_Model_rebuild_216 : decode gb_Model_rebuild 216 = .ok (.istore_n 3, 1) := by decide +kernel
theorem gd_Model_rebuild_217 : decode gb_Model_rebuild 217 = .ok (.goto (-65), 3) := by decide +kernel
theorem gd_Model_rebuild_220 : decode gb_Model_rebuild 220 = .ok (.aload_n 0, 1) := by decide +kernel
theorem gd_Model_rebuild_221 : decode gb_Model_rebuild 221 = .ok (.iconst 1, 1) := by decide +kernel
theorem gd_Model_rebuild_222 : decode gb_Model_rebuild 222 = .ok (.iconst 4, 1) := by decide +kernel
theorem gd_Model_rebuild_223 : decode gb_Model_rebuild 223 = .ok (.invokevirtual 277, 3) := by decide +kernel
theorem gd_Model_rebuild_226 : decode gb_Model_rebuild 226 = .ok (.aload_n 0, 1) := by decide +kernel
theorem gd_Model_rebuild_227 : decode gb_Model_rebuild 227 = .ok (.iconst 0, 1) := by decide +kernel
theorem gd_Model_rebuild_228 : decode gb_Model_rebuild 228 = .ok (.invokevirtual 260, 3) := by decide +kernel
theorem gd_Model_rebuild_231 : decode gb_Model_rebuild 231 = .ok (.ifCond .ne 7, 3) := by decide +kernel
theorem gd_Model_rebuild_234 : decode gb_Model_rebuild 234 = .ok (.iconst 0, 1) := by decide +kernel
theorem gd_Model_rebuild_235 : decode gb_Model_rebuild 235 = .ok (.goto 12, 3) := by decide +kernel
theorem gd_Model_rebuild_238 : decode gb_Model_rebuild 238 = .ok (.iload_n 3, 1) := by decide +kernel
theorem gd_Model_rebuild_239 : decode gb_Model_rebuild 239 = .ok (.ifCond .eq 7, 3) := by decide +kernel
theorem gd_Model_rebuild_242 : decode gb_Model_rebuild 242 = .ok (.iconst 1, 1) := by decide +kernel
theorem gd_Model_rebuild_243 : decode gb_Model_rebuild 243 = .ok (.goto 4, 3) := by decide +kernel
theorem gd_Model_rebuild_246 : decode gb_Model_rebuild 246 = .ok (.iconst (-1), 1) := by decide +kernel
theorem gd_Model_rebuild_247 : decode gb_Model_rebuild 247 = .ok (.ireturn, 1) := by decide +kernel
def gf_Model_rebuild_b216 (F : Nat) (z : gw_Sh) (rc_152 : gw_St → Nat → Int32 → Option (Int32 × gw_St)) (u : gw_St) (t0 : Nat) (sx0 : Int32) : Option (Int32 × gw_St) :=
  rc_152 u t0 sx0
def gf_Model_rebuild_b247 (F : Nat) (z : gw_Sh)  (u : gw_St) (sx0 : Int32) : Option (Int32 × gw_St) :=
  some (sx0, u)
def gf_Model_rebuild_S152 (F : Nat) (z : gw_Sh)  (rc_152 : gw_St → Nat → Int32 → Option (Int32 × gw_St)) (u : gw_St) (t0 : Nat) (x3 : Int32) : Option (Int32 × gw_St) :=
  gf_cl (gf_Model_bits F z u t0 (0 : Int32)) fun a3 u1 => if a3 ≤ (680 : Int32) then ((gf_Model_copyWide F z u1 t0 (1 : Int32) (4 : Int32)).bind fun u5 => gf_cl (gf_Model_size F z u5 t0 (0 : Int32)) fun a9 u7 => if a9 = 0 then (gf_Model_rebuild_b247 F z  u7 0) else (if x3 = 0 then (gf_Model_rebuild_b247 F z  u7 (-1)) else (gf_Model_rebuild_b247 F z  u7 1))) else ((gf_Model_divide F z u1 t0 (1 : Int32) (0 : Int32) (3 : Int32) (4 : Int32)).bind fun u12 => (gf_Model_copyWide F z u12 t0 (2 : Int32) (1 : Int32)).bind fun u14 => (gf_Model_copyWide F z u14 t0 (1 : Int32) (0 : Int32)).bind fun u16 => (gf_Model_copyWide F z u16 t0 (0 : Int32) (2 : Int32)).bind fun u18 => (gf_Model_copyWide F z u18 t0 (2 : Int32) (3 : Int32)).bind fun u20 => (gf_Model_copyWide F z u20 t0 (3 : Int32) (4 : Int32)).bind fun u22 => (gf_Model_copyWide F z u22 t0 (4 : Int32) (2 : Int32)).bind fun u24 => if x3 = 0 then (gf_Model_rebuild_b216 F z rc_152 u24 t0 1) else (gf_Model_rebuild_b216 F z rc_152 u24 t0 0))
def gf_Model_rebuild_L152 (F : Nat) (z : gw_Sh)  : Nat → gw_St → Nat → Int32 → Option (Int32 × gw_St)
  | 0 => fun _ _ _ => none
  | n + 1 => fun u t0 x3 => gf_Model_rebuild_S152 F z  (gf_Model_rebuild_L152 F z  n) u t0 x3
def gf_Model_rebuild_b138 (F : Nat) (z : gw_Sh)  (u : gw_St) (t0 : Nat) : Option (Int32 × gw_St) :=
  (gf_Model_setWide F z u t0 (3 : Int32) (0 : Int64)).bind fun u27 => (gf_Model_setWide F z u27 t0 (4 : Int32) (1 : Int64)).bind fun u29 => gf_Model_rebuild_L152 F z  F u29 t0 1
def gf_Model_rebuild_b132 (F : Nat) (z : gw_Sh) (rc_16 : gw_St → Nat → Int32 → Int32 → Int32 → Option (Int32 × gw_St)) (u : gw_St) (t0 : Nat) (x1 : Int32) (x2 : Int32) (x3 : Int32) : Option (Int32 × gw_St) :=
  gf_nm (x3 + 1) fun a31 => rc_16 u t0 x1 x2 a31
def gf_Model_rebuild_S16 (F : Nat) (z : gw_Sh)  (rc_16 : gw_St → Nat → Int32 → Int32 → Int32 → Option (Int32 × gw_St)) (u : gw_St) (t0 : Nat) (x1 : Int32) (x2 : Int32) (x3 : Int32) : Option (Int32 × gw_St) :=
  if (70 : Int32) ≤ x3 then (gf_Model_rebuild_b138 F z  u t0) else (if (46 : Int32) ≤ x2 then (gf_Model_rebuild_b138 F z  u t0) else (gf_nn (u.2.2 t0 45) fun q35 => if (x3 < 0 ∨ z.2.2 q35 ≤ (x3).toNatClampNeg) then none else if (u.1 q35 (x3).toNatClampNeg) = 0 then (gf_Model_rebuild_b132 F z rc_16 u t0 x1 x2 x3) else (gf_nn (u.2.2 t0 38) fun q39 => if (x3 < 0 ∨ z.2.2 q39 ≤ (x3).toNatClampNeg) then none else gf_nm (((u.1 q39 (x3).toNatClampNeg)).toInt64) fun a42 => gf_nn (u.2.2 t0 47) fun q44 => if ((((60 : Int32) * x3) + x1) < 0 ∨ z.2.2 q44 ≤ ((((60 : Int32) * x3) + x1)).toNatClampNeg) then none else gf_cl (gf_Model_restSmall F z u t0 (0 : Int32) a42) fun a49 u47 => if a42 = 0 then none else if a42 = 0 then none else gf_nm (((((u.2.1 q44 ((((60 : Int32) * x3) + x1)).toNatClampNeg) - a49) - ((u.2.1 q44 ((((60 : Int32) * x3) + x1)).toNatClampNeg) - a49) / a42 * a42) + a42) - ((((u.2.1 q44 ((((60 : Int32) * x3) + x1)).toNatClampNeg) - a49) - ((u.2.1 q44 ((((60 : Int32) * x3) + x1)).toNatClampNeg) - a49) / a42 * a42) + a42) / a42 * a42) fun a52 => gf_cl (gf_Model_restSmall F z u47 t0 (1 : Int32) a42) fun a56 u54 => gf_cl (gf_Model_power F z u54 a56 (a42 - (2 : Int64)) a42) fun a59 u57 => if a42 = 0 then none else gf_nm ((a52 * a59) - (a52 * a59) / a42 * a42) fun a61 => (gf_Model_copyWide F z u57 t0 (2 : Int32) (1 : Int32)).bind fun u63 => (gf_Model_timesSmall F z u63 t0 (2 : Int32) a61).bind fun u65 => (gf_Model_addWide F z u65 t0 (0 : Int32) (2 : Int32) (0 : Int32)).bind fun u67 => (gf_Model_timesSmall F z u67 t0 (1 : Int32) a42).bind fun u69 => gf_nm (x2 + 1) fun a71 => gf_Model_rebuild_b132 F z rc_16 u69 t0 x1 a71 x3)))
def gf_Model_rebuild_L16 (F : Nat) (z : gw_Sh)  : Nat → gw_St → Nat → Int32 → Int32 → Int32 → Option (Int32 × gw_St)
  | 0 => fun _ _ _ _ _ => none
  | n + 1 => fun u t0 x1 x2 x3 => gf_Model_rebuild_S16 F z  (gf_Model_rebuild_L16 F z  n) u t0 x1 x2 x3
def gf_Model_rebuild_b0 (F : Nat) (z : gw_Sh)  (u : gw_St) (t0 : Nat) (x1 : Int32) : Option (Int32 × gw_St) :=
  (gf_Model_setWide F z u t0 (0 : Int32) (0 : Int64)).bind fun u73 => (gf_Model_setWide F z u73 t0 (1 : Int32) (1 : Int64)).bind fun u75 => gf_Model_rebuild_L16 F z  F u75 t0 x1 0 0
def gf_Model_rebuild (F : Nat) (z : gw_Sh) (u : gw_St) (t0 : Nat) (x1 : Int32) : Option (Int32 × gw_St) := gf_Model_rebuild_b0 F z  u t0 x1
set_option maxHeartbeats 4000000 in
set_option maxRecDepth 20000 in
theorem gx_Model_rebuild_b216 {p : Program} {l : Launch} {e : Env} {s : State} {m : MethodId} {args : Array Value} {below : List Frame} {meth : Method} {c : Code} {D : va_G} {cA : Nat → ClassId} {hs : Nat → Nat} {z : gw_Sh} (F : Nat) {r0 : (Int32 × gw_St)} (C : gw_Cx p s m args c gb_Model_rebuild 10 R_Model D cA) (hr : meth.sig.returnType = (some .int)) (hk : meth.locks = false) {rc_152 : gw_St → Nat → Int32 → Option (Int32 × gw_St)} (k_152 : ∀ (u : gw_St) (t0 : Nat) (x3 : Int32) (H : Heap) (locs : List Loc) (ls : Array Slot), gw_ok z t0 9 → gw_Wx D cA hs z s u H locs → lv_has ls 10 [(0, .ref (hs t0)), (3, .int x3)] → rc_152 u t0 x3 = some r0 → gw_Gi p l e gr_Model_rebuild s m args below meth c D cA hs z r0 H locs ls 152 []) (u : gw_St) (t0 : Nat) (sx0 : Int32) (o_t0 : gw_ok z t0 9) {H : Heap} {locs : List Loc} {ls : Array Slot} (hW : gw_Wx D cA hs z s u H locs) (hl : lv_has ls 10 [(0, .ref (hs t0))]) (h : gf_Model_rebuild_b216 F z rc_152  u t0 sx0 = some r0) : gw_Gi p l e gr_Model_rebuild s m args below meth c D cA hs z r0 H locs ls 216 [.int sx0] := by
  obtain ⟨hx, hb, hml, hown, hts, hK⟩ := id C
  unfold gf_Model_rebuild_b216 at h
  refine lv_istore_n (lv' := [(3, .int sx0), (0, .ref (hs t0))]) hx hb gd_Model_rebuild_216 rfl hl (by decide) rfl (fun ls hl => ?_)
  refine lv_goto (tgt := 152) hx hb gd_Model_rebuild_217 (by decide) ?_
  exact k_152 u t0 sx0 _ _ _ o_t0 hW (lv_sub hl [1, 0] rfl) h

set_option maxHeartbeats 4000000 in
set_option maxRecDepth 20000 in
theorem gx_Model_rebuild_b247 {p : Program} {l : Launch} {e : Env} {s : State} {m : MethodId} {args : Array Value} {below : List Frame} {meth : Method} {c : Code} {D : va_G} {cA : Nat → ClassId} {hs : Nat → Nat} {z : gw_Sh} (F : Nat) {r0 : (Int32 × gw_St)} (C : gw_Cx p s m args c gb_Model_rebuild 10 R_Model D cA) (hr : meth.sig.returnType = (some .int)) (hk : meth.locks = false) (u : gw_St) (sx0 : Int32)  {H : Heap} {locs : List Loc} {ls : Array Slot} (hW : gw_Wx D cA hs z s u H locs) (hl : lv_has ls 10 []) (h : gf_Model_rebuild_b247 F z   u sx0 = some r0) : gw_Gi p l e gr_Model_rebuild s m args below meth c D cA hs z r0 H locs ls 247 [.int sx0] := by
  obtain ⟨hx, hb, hml, hown, hts, hK⟩ := id C
  unfold gf_Model_rebuild_b247 at h
  obtain rfl := Option.some.inj h
  exact gw_iret C hW hr hk gd_Model_rebuild_247

set_option maxHeartbeats 4000000 in
set_option maxRecDepth 20000 in
theorem gx_Model_rebuild_S152 {p : Program} {l : Launch} {e : Env} {s : State} {m : MethodId} {args : Array Value} {below : List Frame} {meth : Method} {c : Code} {D : va_G} {cA : Nat → ClassId} {hs : Nat → Nat} {z : gw_Sh} (F : Nat) {r0 : (Int32 × gw_St)} (C : gw_Cx p s m args c gb_Model_rebuild 10 R_Model D cA) (hr : meth.sig.returnType = (some .int)) (hk : meth.locks = false) {rc_152 : gw_St → Nat → Int32 → Option (Int32 × gw_St)} (k_152 : ∀ (u : gw_St) (t0 : Nat) (x3 : Int32) (H : Heap) (locs : List Loc) (ls : Array Slot), gw_ok z t0 9 → gw_Wx D cA hs z s u H locs → lv_has ls 10 [(0, .ref (hs t0)), (3, .int x3)] → rc_152 u t0 x3 = some r0 → gw_Gi p l e gr_Model_rebuild s m args below meth c D cA hs z r0 H locs ls 152 []) (u : gw_St) (t0 : Nat) (x3 : Int32) (o_t0 : gw_ok z t0 9) {H : Heap} {locs : List Loc} {ls : Array Slot} (hW : gw_Wx D cA hs z s u H locs) (hl : lv_has ls 10 [(0, .ref (hs t0)), (3, .int x3)]) (h : gf_Model_rebuild_S152 F z  rc_152 u t0 x3 = some r0) : gw_Gi p l e gr_Model_rebuild s m args below meth c D cA hs z r0 H locs ls 152 [] := by
  obtain ⟨hx, hb, hml, hown, hts, hK⟩ := id C
  unfold gf_Model_rebuild_S152 at h
  refine lv_aload_n hx hb gd_Model_rebuild_152 rfl (lv_at hl 0 rfl) ?_
  refine lv_iconst (v := 0) hx hb gd_Model_rebuild_153 (by decide) ?_
  obtain ⟨a3, u1, d2, h⟩ := gf_cl_ok h
  refine gw_callVi (K := R_Model) (As := [.int (0 : Int32)]) (rest := []) C hW (fun _ h => Or.inr h) hl.1 gm_Model_bits (gc_Model_bits l F o_t0 d2 _) gk_563 gk_564 gk_565 o_t0 (by decide) rfl rfl rfl ⟨Nat.le_of_ble_eq_true rfl, Nat.le_of_ble_eq_true rfl⟩ ⟨Nat.zero_le _, Nat.zero_le _⟩ rfl rfl (Nat.le_of_ble_eq_true rfl) gd_Model_rebuild_154 (fun H locs hW => ?_)
  refine lv_sipush (v := 680) hx hb gd_Model_rebuild_157 (by decide) ?_
  refine lv_icmp_le (tgt := 220) hx hb gd_Model_rebuild_160 (by decide) (fun c4 => ?_) (fun c4 => ?_)
  · have h := gf_t c4 h
    refine lv_aload_n hx hb gd_Model_rebuild_220 rfl (lv_at hl 0 rfl) ?_
    refine lv_iconst (v := 1) hx hb gd_Model_rebuild_221 (by decide) ?_
    refine lv_iconst (v := 4) hx hb gd_Model_rebuild_222 (by decide) ?_
    obtain ⟨u5, d6, h⟩ := gf_bd_ok h
    refine gw_callVv (K := R_Model) (As := [.int (1 : Int32), .int (4 : Int32)]) (rest := []) C hW (fun _ h => Or.inr h) hl.1 gm_Model_copyWide (gc_Model_copyWide l F o_t0 d6 _) gk_566 gk_567 gk_568 o_t0 (by decide) rfl rfl rfl ⟨Nat.le_of_ble_eq_true rfl, Nat.le_of_ble_eq_true rfl⟩ ⟨Nat.zero_le _, Nat.zero_le _⟩ rfl rfl (Nat.le_of_ble_eq_true rfl) gd_Model_rebuild_223 (fun H locs hW => ?_)
    refine lv_aload_n hx hb gd_Model_rebuild_226 rfl (lv_at hl 0 rfl) ?_
    refine lv_iconst (v := 0) hx hb gd_Model_rebuild_227 (by decide) ?_
    obtain ⟨a9, u7, d8, h⟩ := gf_cl_ok h
    refine gw_callVi (K := R_Model) (As := [.int (0 : Int32)]) (rest := []) C hW (fun _ h => Or.inr h) hl.1 gm_Model_size (gc_Model_size l F o_t0 d8 _) gk_530 gk_531 gk_532 o_t0 (by decide) rfl rfl rfl ⟨Nat.le_of_ble_eq_true rfl, Nat.le_of_ble_eq_true rfl⟩ ⟨Nat.zero_le _, Nat.zero_le _⟩ rfl rfl (Nat.le_of_ble_eq_true rfl) gd_Model_rebuild_228 (fun H locs hW => ?_)
    refine lv_if_ne (tgt := 238) hx hb gd_Model_rebuild_231 (by decide) (fun c10 => ?_) (fun c10 => ?_)
    · have h := gf_f c10 h
      refine lv_iload_n hx hb gd_Model_rebuild_238 rfl (lv_at hl 1 rfl) ?_
      refine lv_if_eq (tgt := 246) hx hb gd_Model_rebuild_239 (by decide) (fun c11 => ?_) (fun c11 => ?_)
      · have h := gf_t c11 h
        refine lv_iconst (v := (-1)) hx hb gd_Model_rebuild_246 (by decide) ?_
        exact gx_Model_rebuild_b247 F C hr hk  u7 (-1)  hW (lv_sub hl [] rfl) h
      · have h := gf_f c11 h
        refine lv_iconst (v := 1) hx hb gd_Model_rebuild_242 (by decide) ?_
        refine lv_goto (tgt := 247) hx hb gd_Model_rebuild_243 (by decide) ?_
        exact gx_Model_rebuild_b247 F C hr hk  u7 1  hW (lv_sub hl [] rfl) h
    · have h := gf_t c10 h
      refine lv_iconst (v := 0) hx hb gd_Model_rebuild_234 (by decide) ?_
      refine lv_goto (tgt := 247) hx hb gd_Model_rebuild_235 (by decide) ?_
      exact gx_Model_rebuild_b247 F C hr hk  u7 0  hW (lv_sub hl [] rfl) h
  · have h := gf_f c4 h
    refine lv_aload_n hx hb gd_Model_rebuild_163 rfl (lv_at hl 0 rfl) ?_
    refine lv_iconst (v := 1) hx hb gd_Model_rebuild_164 (by decide) ?_
    refine lv_iconst (v := 0) hx hb gd_Model_rebuild_165 (by decide) ?_
    refine lv_iconst (v := 3) hx hb gd_Model_rebuild_166 (by decide) ?_
    refine lv_iconst (v := 4) hx hb gd_Model_rebuild_167 (by decide) ?_
    obtain ⟨u12, d13, h⟩ := gf_bd_ok h
    refine gw_callVv (K := R_Model) (As := [.int (1 : Int32), .int (0 : Int32), .int (3 : Int32), .int (4 : Int32)]) (rest := []) C hW (fun _ h => Or.inr h) hl.1 gm_Model_divide (gc_Model_divide l F o_t0 d13 _) gk_573 gk_574 gk_575 o_t0 (by decide) rfl rfl rfl ⟨Nat.le_of_ble_eq_true rfl, Nat.le_of_ble_eq_true rfl⟩ ⟨Nat.zero_le _, Nat.zero_le _⟩ rfl rfl (Nat.le_of_ble_eq_true rfl) gd_Model_rebuild_168 (fun H locs hW => ?_)
    refine lv_aload_n hx hb gd_Model_rebuild_171 rfl (lv_at hl 0 rfl) ?_
    refine lv_iconst (v := 2) hx hb gd_Model_rebuild_172 (by decide) ?_
    refine lv_iconst (v := 1) hx hb gd_Model_rebuild_173 (by decide) ?_
    obtain ⟨u14, d15, h⟩ := gf_bd_ok h
    refine gw_callVv (K := R_Model) (As := [.int (2 : Int32), .int (1 : Int32)]) (rest := []) C hW (fun _ h => Or.inr h) hl.1 gm_Model_copyWide (gc_Model_copyWide l F o_t0 d15 _) gk_566 gk_567 gk_568 o_t0 (by decide) rfl rfl rfl ⟨Nat.le_of_ble_eq_true rfl, Nat.le_of_ble_eq_true rfl⟩ ⟨Nat.zero_le _, Nat.zero_le _⟩ rfl rfl (Nat.le_of_ble_eq_true rfl) gd_Model_rebuild_174 (fun H locs hW => ?_)
    refine lv_aload_n hx hb gd_Model_rebuild_177 rfl (lv_at hl 0 rfl) ?_
    refine lv_iconst (v := 1) hx hb gd_Model_rebuild_178 (by decide) ?_
    refine lv_iconst (v := 0) hx hb gd_Model_rebuild_179 (by decide) ?_
    obtain ⟨u16, d17, h⟩ := gf_bd_ok h
    refine gw_callVv (K := R_Model) (As := [.int (1 : Int32), .int (0 : Int32)]) (rest := []) C hW (fun _ h => Or.inr h) hl.1 gm_Model_copyWide (gc_Model_copyWide l F o_t0 d17 _) gk_566 gk_567 gk_568 o_t0 (by decide) rfl rfl rfl ⟨Nat.le_of_ble_eq_true rfl, Nat.le_of_ble_eq_true rfl⟩ ⟨Nat.zero_le _, Nat.zero_le _⟩ rfl rfl (Nat.le_of_ble_eq_true rfl) gd_Model_rebuild_180 (fun H locs hW => ?_)
    refine lv_aload_n hx hb gd_Model_rebuild_183 rfl (lv_at hl 0 rfl) ?_
    refine lv_iconst (v := 0) hx hb gd_Model_rebuild_184 (by decide) ?_
    refine lv_iconst (v := 2) hx hb gd_Model_rebuild_185 (by decide) ?_
    obtain ⟨u18, d19, h⟩ := gf_bd_ok h
    refine gw_callVv (K := R_Model) (As := [.int (0 : Int32), .int (2 : Int32)]) (rest := []) C hW (fun _ h => Or.inr h) hl.1 gm_Model_copyWide (gc_Model_copyWide l F o_t0 d19 _) gk_566 gk_567 gk_568 o_t0 (by decide) rfl rfl rfl ⟨Nat.le_of_ble_eq_true rfl, Nat.le_of_ble_eq_true rfl⟩ ⟨Nat.zero_le _, Nat.zero_le _⟩ rfl rfl (Nat.le_of_ble_eq_true rfl) gd_Model_rebuild_186 (fun H locs hW => ?_)
    refine lv_aload_n hx hb gd_Model_rebuild_189 rfl (lv_at hl 0 rfl) ?_
    refine lv_iconst (v := 2) hx hb gd_Model_rebuild_190 (by decide) ?_
    refine lv_iconst (v := 3) hx hb gd_Model_rebuild_191 (by decide) ?_
    obtain ⟨u20, d21, h⟩ := gf_bd_ok h
    refine gw_callVv (K := R_Model) (As := [.int (2 : Int32), .int (3 : Int32)]) (rest := []) C hW (fun _ h => Or.inr h) hl.1 gm_Model_copyWide (gc_Model_copyWide l F o_t0 d21 _) gk_566 gk_567 gk_568 o_t0 (by decide) rfl rfl rfl ⟨Nat.le_of_ble_eq_true rfl, Nat.le_of_ble_eq_true rfl⟩ ⟨Nat.zero_le _, Nat.zero_le _⟩ rfl rfl (Nat.le_of_ble_eq_true rfl) gd_Model_rebuild_192 (fun H locs hW => ?_)
    refine lv_aload_n hx hb gd_Model_rebuild_195 rfl (lv_at hl 0 rfl) ?_
    refine lv_iconst (v := 3) hx hb gd_Model_rebuild_196 (by decide) ?_
    refine lv_iconst (v := 4) hx hb gd_Model_rebuild_197 (by decide) ?_
    obtain ⟨u22, d23, h⟩ := gf_bd_ok h
    refine gw_callVv (K := R_Model) (As := [.int (3 : Int32), .int (4 : Int32)]) (rest := []) C hW (fun _ h => Or.inr h) hl.1 gm_Model_copyWide (gc_Model_copyWide l F o_t0 d23 _) gk_566 gk_567 gk_568 o_t0 (by decide) rfl rfl rfl ⟨Nat.le_of_ble_eq_true rfl, Nat.le_of_ble_eq_true rfl⟩ ⟨Nat.zero_le _, Nat.zero_le _⟩ rfl rfl (Nat.le_of_ble_eq_true rfl) gd_Model_rebuild_198 (fun H locs hW => ?_)
    refine lv_aload_n hx hb gd_Model_rebuild_201 rfl (lv_at hl 0 rfl) ?_
    refine lv_iconst (v := 4) hx hb gd_Model_rebuild_202 (by decide) ?_
    refine lv_iconst (v := 2) hx hb gd_Model_rebuild_203 (by decide) ?_
    obtain ⟨u24, d25, h⟩ := gf_bd_ok h
    refine gw_callVv (K := R_Model) (As := [.int (4 : Int32), .int (2 : Int32)]) (rest := []) C hW (fun _ h => Or.inr h) hl.1 gm_Model_copyWide (gc_Model_copyWide l F o_t0 d25 _) gk_566 gk_567 gk_568 o_t0 (by decide) rfl rfl rfl ⟨Nat.le_of_ble_eq_true rfl, Nat.le_of_ble_eq_true rfl⟩ ⟨Nat.zero_le _, Nat.zero_le _⟩ rfl rfl (Nat.le_of_ble_eq_true rfl) gd_Model_rebuild_204 (fun H locs hW => ?_)
    refine lv_iload_n hx hb gd_Model_rebuild_207 rfl (lv_at hl 1 rfl) ?_
    refine lv_if_ne (tgt := 215) hx hb gd_Model_rebuild_208 (by decide) (fun c26 => ?_) (fun c26 => ?_)
    · have h := gf_f c26 h
      refine lv_iconst (v := 0) hx hb gd_Model_rebuild_215 (by decide) ?_
      exact gx_Model_rebuild_b216 F C hr hk k_152 u24 t0 0 o_t0 hW (lv_sub hl [0] rfl) h
    · have h := gf_t c26 h
      refine lv_iconst (v := 1) hx hb gd_Model_rebuild_211 (by decide) ?_
      refine lv_goto (tgt := 216) hx hb gd_Model_rebuild_212 (by decide) ?_
      exact gx_Model_rebuild_b216 F C hr hk k_152 u24 t0 1 o_t0 hW (lv_sub hl [0] rfl) h
set_option maxHeartbeats 4000000 in
set_option maxRecDepth 20000 in
theorem gx_Model_rebuild_L152 {p : Program} {l : Launch} {e : Env} {s : State} {m : MethodId} {args : Array Value} {below : List Frame} {meth : Method} {c : Code} {D : va_G} {cA : Nat → ClassId} {hs : Nat → Nat} {z : gw_Sh} (F : Nat) {r0 : (Int32 × gw_St)} (C : gw_Cx p s m args c gb_Model_rebuild 10 R_Model D cA) (hr : meth.sig.returnType = (some .int)) (hk : meth.locks = false) : ∀ (n : Nat), ∀ (u : gw_St) (t0 : Nat) (x3 : Int32) (H : Heap) (locs : List Loc) (ls : Array Slot), gw_ok z t0 9 → gw_Wx D cA hs z s u H locs → lv_has ls 10 [(0, .ref (hs t0)), (3, .int x3)] → gf_Model_rebuild_L152 F z  n u t0 x3 = some r0 → gw_Gi p l e gr_Model_rebuild s m args below meth c D cA hs z r0 H locs ls 152 [] := by
  intro n
  induction n with
  | zero =>
    intro u t0 x3 H locs ls o_t0 hW hl h
    cases h
  | succ n ih =>
    intro u t0 x3 H locs ls o_t0 hW hl h
    exact gx_Model_rebuild_S152 F C hr hk  ih u t0 x3 o_t0 hW hl h

set_option maxHeartbeats 4000000 in
set_option maxRecDepth 20000 in
theorem gx_Model_rebuild_b138 {p : Program} {l : Launch} {e : Env} {s : State} {m : MethodId} {args : Array Value} {below : List Frame} {meth : Method} {c : Code} {D : va_G} {cA : Nat → ClassId} {hs : Nat → Nat} {z : gw_Sh} (F : Nat) {r0 : (Int32 × gw_St)} (C : gw_Cx p s m args c gb_Model_rebuild 10 R_Model D cA) (hr : meth.sig.returnType = (some .int)) (hk : meth.locks = false) (u : gw_St) (t0 : Nat) (o_t0 : gw_ok z t0 9) {H : Heap} {locs : List Loc} {ls : Array Slot} (hW : gw_Wx D cA hs z s u H locs) (hl : lv_has ls 10 [(0, .ref (hs t0))]) (h : gf_Model_rebuild_b138 F z   u t0 = some r0) : gw_Gi p l e gr_Model_rebuild s m args below meth c D cA hs z r0 H locs ls 138 [] := by
  obtain ⟨hx, hb, hml, hown, hts, hK⟩ := id C
  unfold gf_Model_rebuild_b138 at h
  refine lv_aload_n hx hb gd_Model_rebuild_138 rfl (lv_at hl 0 rfl) ?_
  refine lv_iconst (v := 3) hx hb gd_Model_rebuild_139 (by decide) ?_
  refine lv_lconst (v := 0) hx hb gd_Model_rebuild_140 (by decide) ?_
  obtain ⟨u27, d28, h⟩ := gf_bd_ok h
  refine gw_callVv (K := R_Model) (As := [.int (3 : Int32), .long (0 : Int64)]) (rest := []) C hW (fun _ h => Or.inr h) hl.1 gm_Model_setWide (gc_Model_setWide l F o_t0 d28 _) gk_570 gk_571 gk_572 o_t0 (by decide) rfl rfl rfl ⟨Nat.le_of_ble_eq_true rfl, Nat.le_of_ble_eq_true rfl⟩ ⟨Nat.zero_le _, Nat.zero_le _⟩ rfl rfl (Nat.le_of_ble_eq_true rfl) gd_Model_rebuild_141 (fun H locs hW => ?_)
  refine lv_aload_n hx hb gd_Model_rebuild_144 rfl (lv_at hl 0 rfl) ?_
  refine lv_iconst (v := 4) hx hb gd_Model_rebuild_145 (by decide) ?_
  refine lv_lconst (v := 1) hx hb gd_Model_rebuild_146 (by decide) ?_
  obtain ⟨u29, d30, h⟩ := gf_bd_ok h
  refine gw_callVv (K := R_Model) (As := [.int (4 : Int32), .long (1 : Int64)]) (rest := []) C hW (fun _ h => Or.inr h) hl.1 gm_Model_setWide (gc_Model_setWide l F o_t0 d30 _) gk_570 gk_571 gk_572 o_t0 (by decide) rfl rfl rfl ⟨Nat.le_of_ble_eq_true rfl, Nat.le_of_ble_eq_true rfl⟩ ⟨Nat.zero_le _, Nat.zero_le _⟩ rfl rfl (Nat.le_of_ble_eq_true rfl) gd_Model_rebuild_147 (fun H locs hW => ?_)
  refine lv_iconst (v := 1) hx hb gd_Model_rebuild_150 (by decide) ?_
  refine lv_istore_n (lv' := [(3, .int 1), (0, .ref (hs t0))]) hx hb gd_Model_rebuild_151 rfl hl (by decide) rfl (fun ls hl => ?_)
  exact gx_Model_rebuild_L152 F C hr hk  F u29 t0 1 _ _ _ o_t0 hW (lv_sub hl [1, 0] rfl) h

set_option maxHeartbeats 4000000 in
set_option maxRecDepth 20000 in
theorem gx_Model_rebuild_b132 {p : Program} {l : Launch} {e : Env} {s : State} {m : MethodId} {args : Array Value} {below : List Frame} {meth : Method} {c : Code} {D : va_G} {cA : Nat → ClassId} {hs : Nat → Nat} {z : gw_Sh} (F : Nat) {r0 : (Int32 × gw_St)} (C : gw_Cx p s m args c gb_Model_rebuild 10 R_Model D cA) (hr : meth.sig.returnType = (some .int)) (hk : meth.locks = false) {rc_16 : gw_St → Nat → Int32 → Int32 → Int32 → Option (Int32 × gw_St)} (k_16 : ∀ (u : gw_St) (t0 : Nat) (x1 : Int32) (x2 : Int32) (x3 : Int32) (H : Heap) (locs : List Loc) (ls : Array Slot), gw_ok z t0 9 → gw_Wx D cA hs z s u H locs → lv_has ls 10 [(0, .ref (hs t0)), (1, .int x1), (2, .int x2), (3, .int x3)] → rc_16 u t0 x1 x2 x3 = some r0 → gw_Gi p l e gr_Model_rebuild s m args below meth c D cA hs z r0 H locs ls 16 []) (u : gw_St) (t0 : Nat) (x1 : Int32) (x2 : Int32) (x3 : Int32) (o_t0 : gw_ok z t0 9) {H : Heap} {locs : List Loc} {ls : Array Slot} (hW : gw_Wx D cA hs z s u H locs) (hl : lv_has ls 10 [(0, .ref (hs t0)), (1, .int x1), (2, .int x2), (3, .int x3)]) (h : gf_Model_rebuild_b132 F z rc_16  u t0 x1 x2 x3 = some r0) : gw_Gi p l e gr_Model_rebuild s m args below meth c D cA hs z r0 H locs ls 132 [] := by
  obtain ⟨hx, hb, hml, hown, hts, hK⟩ := id C
  unfold gf_Model_rebuild_b132 at h
  obtain ⟨a31, e32⟩ : ∃ y : Int32, y = x3 + 1 := ⟨_, rfl⟩
  have h := gf_nm_ok e32 h
  refine lv_iinc (v := a31) (lv' := [(3, .int a31), (0, .ref (hs t0)), (1, .int x1), (2, .int x2)]) hx hb gd_Model_rebuild_132 hl (k := 3) rfl (by rw [e32]; rfl) (by decide) rfl (fun ls hl => ?_)
  refine lv_goto (tgt := 16) hx hb gd_Model_rebuild_135 (by decide) ?_
  exact k_16 u t0 x1 x2 a31 _ _ _ o_t0 hW (lv_sub hl [1, 2, 3, 0] rfl) h

set_option maxHeartbeats 4000000 in
set_option maxRecDepth 20000 in
theorem gx_Model_rebuild_S16 {p : Program} {l : Launch} {e : Env} {s : State} {m : MethodId} {args : Array Value} {below : List Frame} {meth : Method} {c : Code} {D : va_G} {cA : Nat → ClassId} {hs : Nat → Nat} {z : gw_Sh} (F : Nat) {r0 : (Int32 × gw_St)} (C : gw_Cx p s m args c gb_Model_rebuild 10 R_Model D cA) (hr : meth.sig.returnType = (some .int)) (hk : meth.locks = false) {rc_16 : gw_St → Nat → Int32 → Int32 → Int32 → Option (Int32 × gw_St)} (k_16 : ∀ (u : gw_St) (t0 : Nat) (x1 : Int32) (x2 : Int32) (x3 : Int32) (H : Heap) (locs : List Loc) (ls : Array Slot), gw_ok z t0 9 → gw_Wx D cA hs z s u H locs → lv_has ls 10 [(0, .ref (hs t0)), (1, .int x1), (2, .int x2), (3, .int x3)] → rc_16 u t0 x1 x2 x3 = some r0 → gw_Gi p l e gr_Model_rebuild s m args below meth c D cA hs z r0 H locs ls 16 []) (u : gw_St) (t0 : Nat) (x1 : Int32) (x2 : Int32) (x3 : Int32) (o_t0 : gw_ok z t0 9) {H : Heap} {locs : List Loc} {ls : Array Slot} (hW : gw_Wx D cA hs z s u H locs) (hl : lv_has ls 10 [(0, .ref (hs t0)), (1, .int x1), (2, .int x2), (3, .int x3)]) (h : gf_Model_rebuild_S16 F z  rc_16 u t0 x1 x2 x3 = some r0) : gw_Gi p l e gr_Model_rebuild s m args below meth c D cA hs z r0 H locs ls 16 [] := by
  obtain ⟨hx, hb, hml, hown, hts, hK⟩ := id C
  unfold gf_Model_rebuild_S16 at h
  refine lv_iload_n hx hb gd_Model_rebuild_16 rfl (lv_at hl 3 rfl) ?_
  refine lv_bipush (v := 70) hx hb gd_Model_rebuild_17 (by decide) ?_
  refine lv_icmp_ge (tgt := 138) hx hb gd_Model_rebuild_19 (by decide) (fun c33 => ?_) (fun c33 => ?_)
  · have h := gf_t c33 h
    exact gx_Model_rebuild_b138 F C hr hk  u t0 o_t0 hW (lv_sub hl [0] rfl) h
  · have h := gf_f c33 h
    refine lv_iload_n hx hb gd_Model_rebuild_22 rfl (lv_at hl 2 rfl) ?_
    refine lv_bipush (v := 46) hx hb gd_Model_rebuild_23 (by decide) ?_
    refine lv_icmp_ge (tgt := 138) hx hb gd_Model_rebuild_25 (by decide) (fun c34 => ?_) (fun c34 => ?_)
    · have h := gf_t c34 h
      exact gx_Model_rebuild_b138 F C hr hk  u t0 o_t0 hW (lv_sub hl [0] rfl) h
    · have h := gf_f c34 h
      refine lv_aload_n hx hb gd_Model_rebuild_28 rfl (lv_at hl 0 rfl) ?_
      obtain ⟨q35, e36, h⟩ := gf_nn_ok h
      refine gw_getr (k := 45) (ty := 12) (ref := R_Model) C hW o_t0 (by decide) rfl gi_Model rfl (by decide) rfl rfl gk_523 gd_Model_rebuild_29 e36 ?_
      have o_q35 := hW.ref (d := 12) o_t0 e36 rfl
      refine lv_iload_n hx hb gd_Model_rebuild_32 rfl (lv_at hl 3 rfl) ?_
      obtain ⟨g37, h⟩ := gf_if_ok h
      refine gw_zald C hW o_q35 g37 gd_Model_rebuild_33 ?_
      refine lv_if_eq (tgt := 132) hx hb gd_Model_rebuild_34 (by decide) (fun c38 => ?_) (fun c38 => ?_)
      · have h := gf_t c38 h
        exact gx_Model_rebuild_b132 F C hr hk k_16 u t0 x1 x2 x3 o_t0 hW (lv_sub hl [0, 1, 2, 3] rfl) h
      · have h := gf_f c38 h
        refine lv_aload_n hx hb gd_Model_rebuild_37 rfl (lv_at hl 0 rfl) ?_
        obtain ⟨q39, e40, h⟩ := gf_nn_ok h
        refine gw_getr (k := 38) (ty := 10) (ref := R_Model) C hW o_t0 (by decide) rfl gi_Model rfl (by decide) rfl rfl gk_524 gd_Model_rebuild_38 e40 ?_
        have o_q39 := hW.ref (d := 10) o_t0 e40 rfl
        refine lv_iload_n hx hb gd_Model_rebuild_41 rfl (lv_at hl 3 rfl) ?_
        obtain ⟨g41, h⟩ := gf_if_ok h
        refine gw_iald C hW o_q39 g41 gd_Model_rebuild_42 ?_
        refine lv_i2l hx hb gd_Model_rebuild_43 rfl ?_
        refine lv_topl (fun a42 e43 => ?_)
        have h := gf_nm_ok e43 h
        refine lv_lstore (lv' := [(4, .long a42), (0, .ref (hs t0)), (1, .int x1), (2, .int x2), (3, .int x3)]) hx hb gd_Model_rebuild_44 hl (by decide) rfl (fun ls hl => ?_)
        refine lv_aload_n hx hb gd_Model_rebuild_46 rfl (lv_at hl 1 rfl) ?_
        obtain ⟨q44, e45, h⟩ := gf_nn_ok h
        refine gw_getr (k := 47) (ty := 11) (ref := R_Model) C hW o_t0 (by decide) rfl gi_Model rfl (by decide) rfl rfl gk_521 gd_Model_rebuild_47 e45 ?_
        have o_q44 := hW.ref (d := 11) o_t0 e45 rfl
        refine lv_bipush (v := 60) hx hb gd_Model_rebuild_50 (by decide) ?_
        refine lv_iload_n hx hb gd_Model_rebuild_52 rfl (lv_at hl 4 rfl) ?_
        refine lv_imul hx hb gd_Model_rebuild_53 ?_
        refine lv_iload_n hx hb gd_Model_rebuild_54 rfl (lv_at hl 2 rfl) ?_
        refine lv_iadd hx hb gd_Model_rebuild_55 ?_
        obtain ⟨g46, h⟩ := gf_if_ok h
        refine gw_lald C hW o_q44 g46 gd_Model_rebuild_56 ?_
        refine lv_aload_n hx hb gd_Model_rebuild_57 rfl (lv_at hl 1 rfl) ?_
        refine lv_iconst (v := 0) hx hb gd_Model_rebuild_58 (by decide) ?_
        refine lv_lload hx hb gd_Model_rebuild_59 (lv_at hl 0 rfl) ?_
        obtain ⟨a49, u47, d48, h⟩ := gf_cl_ok h
        refine gw_callVl (K := R_Model) (As := [.int (0 : Int32), .long a42]) (rest := [.long (u.2.1 q44 ((((60 : Int32) * x3) + x1)).toNatClampNeg)]) C hW (fun _ h => Or.inr h) hl.1 gm_Model_restSmall (gc_Model_restSmall l F o_t0 d48 _) gk_586 gk_587 gk_588 o_t0 (by decide) rfl rfl rfl ⟨Nat.le_of_ble_eq_true rfl, Nat.le_of_ble_eq_true rfl⟩ ⟨Nat.zero_le _, Nat.zero_le _⟩ rfl rfl (Nat.le_of_ble_eq_true rfl) gd_Model_rebuild_61 (fun H locs hW => ?_)
        refine lv_lsub hx hb gd_Model_rebuild_64 ?_
        refine lv_lload hx hb gd_Model_rebuild_65 (lv_at hl 0 rfl) ?_
        obtain ⟨g50, h⟩ := gf_if_ok h
        refine lv_lrem hx hb gd_Model_rebuild_67 g50 ?_
        refine lv_lload hx hb gd_Model_rebuild_68 (lv_at hl 0 rfl) ?_
        refine lv_ladd hx hb gd_Model_rebuild_70 ?_
        refine lv_lload hx hb gd_Model_rebuild_71 (lv_at hl 0 rfl) ?_
        obtain ⟨g51, h⟩ := gf_if_ok h
        refine lv_lrem hx hb gd_Model_rebuild_73 g51 ?_
        refine lv_topl (fun a52 e53 => ?_)
        have h := gf_nm_ok e53 h
        refine lv_lstore (lv' := [(6, .long a52), (4, .long a42), (0, .ref (hs t0)), (1, .int x1), (2, .int x2), (3, .int x3)]) hx hb gd_Model_rebuild_74 hl (by decide) rfl (fun ls hl => ?_)
        refine lv_lload hx hb gd_Model_rebuild_76 (lv_at hl 0 rfl) ?_
        refine lv_aload_n hx hb gd_Model_rebuild_78 rfl (lv_at hl 2 rfl) ?_
        refine lv_iconst (v := 1) hx hb gd_Model_rebuild_79 (by decide) ?_
        refine lv_lload hx hb gd_Model_rebuild_80 (lv_at hl 1 rfl) ?_
        obtain ⟨a56, u54, d55, h⟩ := gf_cl_ok h
        refine gw_callVl (K := R_Model) (As := [.int (1 : Int32), .long a42]) (rest := [.long a52]) C hW (fun _ h => Or.inr h) hl.1 gm_Model_restSmall (gc_Model_restSmall l F o_t0 d55 _) gk_586 gk_587 gk_588 o_t0 (by decide) rfl rfl rfl ⟨Nat.le_of_ble_eq_true rfl, Nat.le_of_ble_eq_true rfl⟩ ⟨Nat.zero_le _, Nat.zero_le _⟩ rfl rfl (Nat.le_of_ble_eq_true rfl) gd_Model_rebuild_82 (fun H locs hW => ?_)
        refine lv_lload hx hb gd_Model_rebuild_85 (lv_at hl 1 rfl) ?_
        refine lv_ldc2 (v := 2) hx hb hown (hts _ gk_381) gd_Model_rebuild_87 ?_
        refine lv_lsub hx hb gd_Model_rebuild_90 ?_
        refine lv_lload hx hb gd_Model_rebuild_91 (lv_at hl 1 rfl) ?_
        obtain ⟨a59, u57, d58, h⟩ := gf_cl_ok h
        refine gw_callSl (As := [.long a56, .long (a42 - (2 : Int64)), .long a42]) (rest := [.long a52]) C hW (fun _ h => Or.inr h) hl.1 gm_Model_power (gc_Model_power l F  d58 _) gk_502 gk_503 rfl rfl ⟨Nat.le_of_ble_eq_true rfl, Nat.le_of_ble_eq_true rfl⟩ ⟨Nat.zero_le _, Nat.zero_le _⟩ rfl rfl (Nat.le_of_ble_eq_true rfl) gd_Model_rebuild_93 (fun H locs hW => ?_)
        refine lv_lmul hx hb gd_Model_rebuild_96 ?_
        refine lv_lload hx hb gd_Model_rebuild_97 (lv_at hl 1 rfl) ?_
        obtain ⟨g60, h⟩ := gf_if_ok h
        refine lv_lrem hx hb gd_Model_rebuild_99 g60 ?_
        refine lv_topl (fun a61 e62 => ?_)
        have h := gf_nm_ok e62 h
        refine lv_lstore (lv' := [(8, .long a61), (6, .long a52), (4, .long a42), (0, .ref (hs t0)), (1, .int x1), (2, .int x2), (3, .int x3)]) hx hb gd_Model_rebuild_100 hl (by decide) rfl (fun ls hl => ?_)
        refine lv_aload_n hx hb gd_Model_rebuild_102 rfl (lv_at hl 3 rfl) ?_
        refine lv_iconst (v := 2) hx hb gd_Model_rebuild_103 (by decide) ?_
        refine lv_iconst (v := 1) hx hb gd_Model_rebuild_104 (by decide) ?_
        obtain ⟨u63, d64, h⟩ := gf_bd_ok h
        refine gw_callVv (K := R_Model) (As := [.int (2 : Int32), .int (1 : Int32)]) (rest := []) C hW (fun _ h => Or.inr h) hl.1 gm_Model_copyWide (gc_Model_copyWide l F o_t0 d64 _) gk_566 gk_567 gk_568 o_t0 (by decide) rfl rfl rfl ⟨Nat.le_of_ble_eq_true rfl, Nat.le_of_ble_eq_true rfl⟩ ⟨Nat.zero_le _, Nat.zero_le _⟩ rfl rfl (Nat.le_of_ble_eq_true rfl) gd_Model_rebuild_105 (fun H locs hW => ?_)
        refine lv_aload_n hx hb gd_Model_rebuild_108 rfl (lv_at hl 3 rfl) ?_
        refine lv_iconst (v := 2) hx hb gd_Model_rebuild_109 (by decide) ?_
        refine lv_lload hx hb gd_Model_rebuild_110 (lv_at hl 0 rfl) ?_
        obtain ⟨u65, d66, h⟩ := gf_bd_ok h
        refine gw_callVv (K := R_Model) (As := [.int (2 : Int32), .long a61]) (rest := []) C hW (fun _ h => Or.inr h) hl.1 gm_Model_timesSmall (gc_Model_timesSmall l F o_t0 d66 _) gk_589 gk_590 gk_591 o_t0 (by decide) rfl rfl rfl ⟨Nat.le_of_ble_eq_true rfl, Nat.le_of_ble_eq_true rfl⟩ ⟨Nat.zero_le _, Nat.zero_le _⟩ rfl rfl (Nat.le_of_ble_eq_true rfl) gd_Model_rebuild_112 (fun H locs hW => ?_)
        refine lv_aload_n hx hb gd_Model_rebuild_115 rfl (lv_at hl 3 rfl) ?_
        refine lv_iconst (v := 0) hx hb gd_Model_rebuild_116 (by decide) ?_
        refine lv_iconst (v := 2) hx hb gd_Model_rebuild_117 (by decide) ?_
        refine lv_iconst (v := 0) hx hb gd_Model_rebuild_118 (by decide) ?_
        obtain ⟨u67, d68, h⟩ := gf_bd_ok h
        refine gw_callVv (K := R_Model) (As := [.int (0 : Int32), .int (2 : Int32), .int (0 : Int32)]) (rest := []) C hW (fun _ h => Or.inr h) hl.1 gm_Model_addWide (gc_Model_addWide l F o_t0 d68 _) gk_557 gk_558 gk_559 o_t0 (by decide) rfl rfl rfl ⟨Nat.le_of_ble_eq_true rfl, Nat.le_of_ble_eq_true rfl⟩ ⟨Nat.zero_le _, Nat.zero_le _⟩ rfl rfl (Nat.le_of_ble_eq_true rfl) gd_Model_rebuild_119 (fun H locs hW => ?_)
        refine lv_aload_n hx hb gd_Model_rebuild_122 rfl (lv_at hl 3 rfl) ?_
        refine lv_iconst (v := 1) hx hb gd_Model_rebuild_123 (by decide) ?_
        refine lv_lload hx hb gd_Model_rebuild_124 (lv_at hl 2 rfl) ?_
        obtain ⟨u69, d70, h⟩ := gf_bd_ok h
        refine gw_callVv (K := R_Model) (As := [.int (1 : Int32), .long a42]) (rest := []) C hW (fun _ h => Or.inr h) hl.1 gm_Model_timesSmall (gc_Model_timesSmall l F o_t0 d70 _) gk_589 gk_590 gk_591 o_t0 (by decide) rfl rfl rfl ⟨Nat.le_of_ble_eq_true rfl, Nat.le_of_ble_eq_true rfl⟩ ⟨Nat.zero_le _, Nat.zero_le _⟩ rfl rfl (Nat.le_of_ble_eq_true rfl) gd_Model_rebuild_126 (fun H locs hW => ?_)
        obtain ⟨a71, e72⟩ : ∃ y : Int32, y = x2 + 1 := ⟨_, rfl⟩
        have h := gf_nm_ok e72 h
        refine lv_iinc (v := a71) (lv' := [(2, .int a71), (8, .long a61), (6, .long a52), (4, .long a42), (0, .ref (hs t0)), (1, .int x1), (3, .int x3)]) hx hb gd_Model_rebuild_129 hl (k := 5) rfl (by rw [e72]; rfl) (by decide) rfl (fun ls hl => ?_)
        exact gx_Model_rebuild_b132 F C hr hk k_16 u69 t0 x1 a71 x3 o_t0 hW (lv_sub hl [4, 5, 0, 6] rfl) h
set_option maxHeartbeats 4000000 in
set_option maxRecDepth 20000 in
theorem gx_Model_rebuild_L16 {p : Program} {l : Launch} {e : Env} {s : State} {m : MethodId} {args : Array Value} {below : List Frame} {meth : Method} {c : Code} {D : va_G} {cA : Nat → ClassId} {hs : Nat → Nat} {z : gw_Sh} (F : Nat) {r0 : (Int32 × gw_St)} (C : gw_Cx p s m args c gb_Model_rebuild 10 R_Model D cA) (hr : meth.sig.returnType = (some .int)) (hk : meth.locks = false) : ∀ (n : Nat), ∀ (u : gw_St) (t0 : Nat) (x1 : Int32) (x2 : Int32) (x3 : Int32) (H : Heap) (locs : List Loc) (ls : Array Slot), gw_ok z t0 9 → gw_Wx D cA hs z s u H locs → lv_has ls 10 [(0, .ref (hs t0)), (1, .int x1), (2, .int x2), (3, .int x3)] → gf_Model_rebuild_L16 F z  n u t0 x1 x2 x3 = some r0 → gw_Gi p l e gr_Model_rebuild s m args below meth c D cA hs z r0 H locs ls 16 [] := by
  intro n
  induction n with
  | zero =>
    intro u t0 x1 x2 x3 H locs ls o_t0 hW hl h
    cases h
  | succ n ih =>
    intro u t0 x1 x2 x3 H locs ls o_t0 hW hl h
    exact gx_Model_rebuild_S16 F C hr hk  ih u t0 x1 x2 x3 o_t0 hW hl h

set_option maxHeartbeats 4000000 in
set_option maxRecDepth 20000 in
theorem gx_Model_rebuild_b0 {p : Program} {l : Launch} {e : Env} {s : State} {m : MethodId} {args : Array Value} {below : List Frame} {meth : Method} {c : Code} {D : va_G} {cA : Nat → ClassId} {hs : Nat → Nat} {z : gw_Sh} (F : Nat) {r0 : (Int32 × gw_St)} (C : gw_Cx p s m args c gb_Model_rebuild 10 R_Model D cA) (hr : meth.sig.returnType = (some .int)) (hk : meth.locks = false) (u : gw_St) (t0 : Nat) (x1 : Int32) (o_t0 : gw_ok z t0 9) {H : Heap} {locs : List Loc} {ls : Array Slot} (hW : gw_Wx D cA hs z s u H locs) (hl : lv_has ls 10 [(0, .ref (hs t0)), (1, .int x1)]) (h : gf_Model_rebuild_b0 F z   u t0 x1 = some r0) : gw_Gi p l e gr_Model_rebuild s m args below meth c D cA hs z r0 H locs ls 0 [] := by
  obtain ⟨hx, hb, hml, hown, hts, hK⟩ := id C
  unfold gf_Model_rebuild_b0 at h
  refine lv_aload_n hx hb gd_Model_rebuild_0 rfl (lv_at hl 0 rfl) ?_
  refine lv_iconst (v := 0) hx hb gd_Model_rebuild_1 (by decide) ?_
  refine lv_lconst (v := 0) hx hb gd_Model_rebuild_2 (by decide) ?_
  obtain ⟨u73, d74, h⟩ := gf_bd_ok h
  refine gw_callVv (K := R_Model) (As := [.int (0 : Int32), .long (0 : Int64)]) (rest := []) C hW (fun _ h => Or.inr h) hl.1 gm_Model_setWide (gc_Model_setWide l F o_t0 d74 _) gk_570 gk_571 gk_572 o_t0 (by decide) rfl rfl rfl ⟨Nat.le_of_ble_eq_true rfl, Nat.le_of_ble_eq_true rfl⟩ ⟨Nat.zero_le _, Nat.zero_le _⟩ rfl rfl (Nat.le_of_ble_eq_true rfl) gd_Model_rebuild_3 (fun H locs hW => ?_)
  refine lv_aload_n hx hb gd_Model_rebuild_6 rfl (lv_at hl 0 rfl) ?_
  refine lv_iconst (v := 1) hx hb gd_Model_rebuild_7 (by decide) ?_
  refine lv_lconst (v := 1) hx hb gd_Model_rebuild_8 (by decide) ?_
  obtain ⟨u75, d76, h⟩ := gf_bd_ok h
  refine gw_callVv (K := R_Model) (As := [.int (1 : Int32), .long (1 : Int64)]) (rest := []) C hW (fun _ h => Or.inr h) hl.1 gm_Model_setWide (gc_Model_setWide l F o_t0 d76 _) gk_570 gk_571 gk_572 o_t0 (by decide) rfl rfl rfl ⟨Nat.le_of_ble_eq_true rfl, Nat.le_of_ble_eq_true rfl⟩ ⟨Nat.zero_le _, Nat.zero_le _⟩ rfl rfl (Nat.le_of_ble_eq_true rfl) gd_Model_rebuild_9 (fun H locs hW => ?_)
  refine lv_iconst (v := 0) hx hb gd_Model_rebuild_12 (by decide) ?_
  refine lv_istore_n (lv' := [(2, .int 0), (0, .ref (hs t0)), (1, .int x1)]) hx hb gd_Model_rebuild_13 rfl hl (by decide) rfl (fun ls hl => ?_)
  refine lv_iconst (v := 0) hx hb gd_Model_rebuild_14 (by decide) ?_
  refine lv_istore_n (lv' := [(3, .int 0), (2, .int 0), (0, .ref (hs t0)), (1, .int x1)]) hx hb gd_Model_rebuild_15 rfl hl (by decide) rfl (fun ls hl => ?_)
  exact gx_Model_rebuild_L16 F C hr hk  F u75 t0 x1 0 0 _ _ _ o_t0 hW (lv_sub hl [2, 3, 1, 0] rfl) h

set_option maxRecDepth 20000 in
theorem gc_Model_rebuild (l : Launch) {D : va_G} {cA : Nat → ClassId} {hs : Nat → Nat} {z : gw_Sh} (F : Nat) {u : gw_St} {r0 : (Int32 × gw_St)} {t0 : Nat} {x1 : Int32} (o_t0 : gw_ok z t0 9) (h : gf_Model_rebuild F z u t0 x1 = some r0) (sz : Nat) : gw_Mi l gy_Model_rebuild gb_Model_rebuild 10 (some .int) gr_Model_rebuild [.ref (hs t0), .int x1] D cA hs z u sz r0 := by
  refine gw_enter (by decide) (Nat.le_of_ble_eq_true rfl) ?_
  intro p e s m below meth c ls hsz C hW hr hk _ hl
  subst hsz
  exact gx_Model_rebuild_b0 F C hr hk u t0 x1 o_t0 hW (lv_sub hl [0, 1] rfl) h
-- GearDeskModel.store([III)V
def gy_Model_store : MethodName := ⟨R_Model, "store", "([III)V"⟩
abbrev gb_Model_store : ByteArray := prog_11_method_62_code
theorem gk_593 : Cond.code gy_Model_store gb_Model_store 5 none ∈ gt_T := gt_m7 (List.mem_of_getElem? (i := 194) rfl) rfl
def gr_Model_store : Room := gw_rm 1 64
theorem gm_Model_store : gw_Mth gy_Model_store gb_Model_store 5 none 3 := ⟨gk_593, gk_377, ⟨by decide +kernel, by decide +kernel⟩, by decide +kernel⟩
theorem gd_Model_store_0 : decode gb_Model_store 0 = .ok (.iconst 0, 1) := by decide +kernel
theorem gd_Model_store_1 : decode gb_Model_store 1 = .ok (.istore 4, 2) := by decide +kernel
theorem gd_Model_store_3 : decode gb_Model_store 3 = .ok (.iload 4, 2) := by decide +kernel
theorem gd_Model_store_5 : decode gb_Model_store 5 = .ok (.bipush 16, 2) := by decide +kernel
theorem gd_Model_store_7 : decode gb_Model_store 7 = .ok (.if_icmp .ge 32, 3) := by decide +kernel
theorem gd_Model_store_10 : decode gb_Model_store 10 = .ok (.aload_n 1, 1) := by decide +kernel
theorem gd_Model_store_11 : decode gb_Model_store 11 = .ok (.bipush 16, 2) := by decide +kernel
theorem gd_Model_store_13 : decode gb_Model_store 13 = .ok (.iload_n 2, 1) := by decide +kernel
theorem gd_Model_store_14 : decode gb_Model_store 14 = .ok (.imul, 1) := by decide +kernel
theorem gd_Model_store_15 : decode gb_Model_store 15 = .ok (.iload 4, 2) := by decide +kernel
theorem gd_Model_store_17 : decode gb_Model_store 17 = .ok (.iadd, 1) := by decide +kernel
theorem gd_Model_store_18 : decode gb_Model_store 18 = .ok (.aload_n 0, 1) := by decide +kernel
theorem gd_Model_store_19 : decode gb_Model_store 19 = .ok (.getfield 104, 3) := by decide +kernel
theorem gd_Model_store_22 : decode gb_Model_store 22 = .ok (.sipush 256, 3) := by decide +kernel
theorem gd_Model_store_25 : decode gb_Model_store 25 = .ok (.iload_n 3, 1) := by decide +kernel
theorem gd_Model_store_26 : decode gb_Model_store 26 = .ok (.imul, 1) := by decide +kernel
theorem gd_Model_store_27 : decode gb_Model_store 27 = .ok (.iload 4, 2) := by decide +kernel
theorem gd_Model_store_29 : decode gb_Model_store 29 = .ok (.iadd, 1) := by decide +kernel
theorem gd_Model_store_30 : decode gb_Model_store 30 = .ok (.laload, 1) := by decide +kernel
theorem gd_Model_store_31 : decode gb_Model_store 31 = .ok (.l2i, 1) := by decide +kernel
theorem gd_Model_store_32 : decode gb_Model_store 32 = .ok (.iastore, 1) := by decide +kernel
theorem gd_Model_store_33 : decode gb_Model_store 33 = .ok (.iinc 4 1, 3) := by decide +kernel
theorem gd_Model_store_36 : decode gb_Model_store 36 = .ok (.goto (-33), 3) := by decide +kernel
theorem gd_Model_store_39 : decode gb_Model_store 39 = .ok (.return_, 1) := by decide +kernel
def gf_Model_store_S3 (F : Nat) (z : gw_Sh)  (rc_3 : gw_St → Nat → Nat → Int32 → Int32 → Int32 → Option gw_St) (u : gw_St) (t0 : Nat) (t1 : Nat) (x2 : Int32) (x3 : Int32) (x4 : Int32) : Option gw_St :=
  if (16 : Int32) ≤ x4 then (some u) else (gf_nn (u.2.2 t0 48) fun q2 => if ((((256 : Int32) * x3) + x4) < 0 ∨ z.2.2 q2 ≤ ((((256 : Int32) * x3) + x4)).toNatClampNeg) then none else if ((((16 : Int32) * x2) + x4) < 0 ∨ z.2.2 t1 ≤ ((((16 : Int32) * x2) + x4)).toNatClampNeg) then none else gf_nm (gw_wi u t1 ((((16 : Int32) * x2) + x4)).toNatClampNeg (((u.2.1 q2 ((((256 : Int32) * x3) + x4)).toNatClampNeg)).toInt32)) fun u6 => gf_nm (x4 + 1) fun a8 => rc_3 u6 t0 t1 x2 x3 a8)
def gf_Model_store_L3 (F : Nat) (z : gw_Sh)  : Nat → gw_St → Nat → Nat → Int32 → Int32 → Int32 → Option gw_St
  | 0 => fun _ _ _ _ _ _ => none
  | n + 1 => fun u t0 t1 x2 x3 x4 => gf_Model_store_S3 F z  (gf_Model_store_L3 F z  n) u t0 t1 x2 x3 x4
def gf_Model_store_b0 (F : Nat) (z : gw_Sh)  (u : gw_St) (t0 : Nat) (t1 : Nat) (x2 : Int32) (x3 : Int32) : Option gw_St :=
  gf_Model_store_L3 F z  F u t0 t1 x2 x3 0
def gf_Model_store (F : Nat) (z : gw_Sh) (u : gw_St) (t0 : Nat) (t1 : Nat) (x2 : Int32) (x3 : Int32) : Option gw_St := gf_Model_store_b0 F z  u t0 t1 x2 x3
set_option maxHeartbeats 4000000 in
set_option maxRecDepth 20000 in
theorem gx_Model_store_S3 {p : Program} {l : Launch} {e : Env} {s : State} {m : MethodId} {args : Array Value} {below : List Frame} {meth : Method} {c : Code} {D : va_G} {cA : Nat → ClassId} {hs : Nat → Nat} {z : gw_Sh} (F : Nat) {r0 : gw_St} (C : gw_Cx p s m args c gb_Model_store 5 R_Model D cA) (hr : meth.sig.returnType = none) (hk : meth.locks = false) {rc_3 : gw_St → Nat → Nat → Int32 → Int32 → Int32 → Option gw_St} (k_3 : ∀ (u : gw_St) (t0 : Nat) (t1 : Nat) (x2 : Int32) (x3 : Int32) (x4 : Int32) (H : Heap) (locs : List Loc) (ls : Array Slot), gw_ok z t0 9 → gw_ok z t1 10 → gw_Wx D cA hs z s u H locs → lv_has ls 5 [(0, .ref (hs t0)), (1, .ref (hs t1)), (2, .int x2), (3, .int x3), (4, .int x4)] → rc_3 u t0 t1 x2 x3 x4 = some r0 → gw_Gv p l e gr_Model_store s m args below meth c D cA hs z r0 H locs ls 3 []) (u : gw_St) (t0 : Nat) (t1 : Nat) (x2 : Int32) (x3 : Int32) (x4 : Int32) (o_t0 : gw_ok z t0 9) (o_t1 : gw_ok z t1 10) {H : Heap} {locs : List Loc} {ls : Array Slot} (hW : gw_Wx D cA hs z s u H locs) (hl : lv_has ls 5 [(0, .ref (hs t0)), (1, .ref (hs t1)), (2, .int x2), (3, .int x3), (4, .int x4)]) (h : gf_Model_store_S3 F z  rc_3 u t0 t1 x2 x3 x4 = some r0) : gw_Gv p l e gr_Model_store s m args below meth c D cA hs z r0 H locs ls 3 [] := by
  obtain ⟨hx, hb, hml, hown, hts, hK⟩ := id C
  unfold gf_Model_store_S3 at h
  refine lv_iload hx hb gd_Model_store_3 (lv_at hl 4 rfl) ?_
  refine lv_bipush (v := 16) hx hb gd_Model_store_5 (by decide) ?_
  refine lv_icmp_ge (tgt := 39) hx hb gd_Model_store_7 (by decide) (fun c1 => ?_) (fun c1 => ?_)
  · have h := gf_t c1 h
    obtain rfl := Option.some.inj h
    exact gw_vret C hW hr hk gd_Model_store_39
  · have h := gf_f c1 h
    refine lv_aload_n hx hb gd_Model_store_10 rfl (lv_at hl 1 rfl) ?_
    refine lv_bipush (v := 16) hx hb gd_Model_store_11 (by decide) ?_
    refine lv_iload_n hx hb gd_Model_store_13 rfl (lv_at hl 2 rfl) ?_
    refine lv_imul hx hb gd_Model_store_14 ?_
    refine lv_iload hx hb gd_Model_store_15 (lv_at hl 4 rfl) ?_
    refine lv_iadd hx hb gd_Model_store_17 ?_
    refine lv_aload_n hx hb gd_Model_store_18 rfl (lv_at hl 0 rfl) ?_
    obtain ⟨q2, e3, h⟩ := gf_nn_ok h
    refine gw_getr (k := 48) (ty := 11) (ref := R_Model) C hW o_t0 (by decide) rfl gi_Model rfl (by decide) rfl rfl gk_526 gd_Model_store_19 e3 ?_
    have o_q2 := hW.ref (d := 11) o_t0 e3 rfl
    refine lv_sipush (v := 256) hx hb gd_Model_store_22 (by decide) ?_
    refine lv_iload_n hx hb gd_Model_store_25 rfl (lv_at hl 3 rfl) ?_
    refine lv_imul hx hb gd_Model_store_26 ?_
    refine lv_iload hx hb gd_Model_store_27 (lv_at hl 4 rfl) ?_
    refine lv_iadd hx hb gd_Model_store_29 ?_
    obtain ⟨g4, h⟩ := gf_if_ok h
    refine gw_lald C hW o_q2 g4 gd_Model_store_30 ?_
    refine lv_l2i hx hb gd_Model_store_31 rfl ?_
    obtain ⟨g5, h⟩ := gf_if_ok h
    refine gw_iast C hW o_t1 g5 gd_Model_store_32 (fun u6 H locs e7 hW => ?_)
    have h := gf_nm_ok e7 h
    obtain ⟨a8, e9⟩ : ∃ y : Int32, y = x4 + 1 := ⟨_, rfl⟩
    have h := gf_nm_ok e9 h
    refine lv_iinc (v := a8) (lv' := [(4, .int a8), (0, .ref (hs t0)), (1, .ref (hs t1)), (2, .int x2), (3, .int x3)]) hx hb gd_Model_store_33 hl (k := 4) rfl (by rw [e9]; rfl) (by decide) rfl (fun ls hl => ?_)
    refine lv_goto (tgt := 3) hx hb gd_Model_store_36 (by decide) ?_
    exact k_3 u6 t0 t1 x2 x3 a8 _ _ _ o_t0 o_t1 hW (lv_sub hl [1, 2, 3, 4, 0] rfl) h
set_option maxHeartbeats 4000000 in
set_option maxRecDepth 20000 in
theorem gx_Model_store_L3 {p : Program} {l : Launch} {e : Env} {s : State} {m : MethodId} {args : Array Value} {below : List Frame} {meth : Method} {c : Code} {D : va_G} {cA : Nat → ClassId} {hs : Nat → Nat} {z : gw_Sh} (F : Nat) {r0 : gw_St} (C : gw_Cx p s m args c gb_Model_store 5 R_Model D cA) (hr : meth.sig.returnType = none) (hk : meth.locks = false) : ∀ (n : Nat), ∀ (u : gw_St) (t0 : Nat) (t1 : Nat) (x2 : Int32) (x3 : Int32) (x4 : Int32) (H : Heap) (locs : List Loc) (ls : Array Slot), gw_ok z t0 9 → gw_ok z t1 10 → gw_Wx D cA hs z s u H locs → lv_has ls 5 [(0, .ref (hs t0)), (1, .ref (hs t1)), (2, .int x2), (3, .int x3), (4, .int x4)] → gf_Model_store_L3 F z  n u t0 t1 x2 x3 x4 = some r0 → gw_Gv p l e gr_Model_store s m args below meth c D cA hs z r0 H locs ls 3 [] := by
  intro n
  induction n with
  | zero =>
    intro u t0 t1 x2 x3 x4 H locs ls o_t0 o_t1 hW hl h
    cases h
  | succ n ih =>
    intro u t0 t1 x2 x3 x4 H locs ls o_t0 o_t1 hW hl h
    exact gx_Model_store_S3 F C hr hk  ih u t0 t1 x2 x3 x4 o_t0 o_t1 hW hl h

set_option maxHeartbeats 4000000 in
set_option maxRecDepth 20000 in
theorem gx_Model_store_b0 {p : Program} {l : Launch} {e : Env} {s : State} {m : MethodId} {args : Array Value} {below : List Frame} {meth : Method} {c : Code} {D : va_G} {cA : Nat → ClassId} {hs : Nat → Nat} {z : gw_Sh} (F : Nat) {r0 : gw_St} (C : gw_Cx p s m args c gb_Model_store 5 R_Model D cA) (hr : meth.sig.returnType = none) (hk : meth.locks = false) (u : gw_St) (t0 : Nat) (t1 : Nat) (x2 : Int32) (x3 : Int32) (o_t0 : gw_ok z t0 9) (o_t1 : gw_ok z t1 10) {H : Heap} {locs : List Loc} {ls : Array Slot} (hW : gw_Wx D cA hs z s u H locs) (hl : lv_has ls 5 [(0, .ref (hs t0)), (1, .ref (hs t1)), (2, .int x2), (3, .int x3)]) (h : gf_Model_store_b0 F z   u t0 t1 x2 x3 = some r0) : gw_Gv p l e gr_Model_store s m args below meth c D cA hs z r0 H locs ls 0 [] := by
  obtain ⟨hx, hb, hml, hown, hts, hK⟩ := id C
  unfold gf_Model_store_b0 at h
  refine lv_iconst (v := 0) hx hb gd_Model_store_0 (by decide) ?_
  refine lv_istore (lv' := [(4, .int 0), (0, .ref (hs t0)), (1, .ref (hs t1)), (2, .int x2), (3, .int x3)]) hx hb gd_Model_store_1 hl (by decide) rfl (fun ls hl => ?_)
  exact gx_Model_store_L3 F C hr hk  F u t0 t1 x2 x3 0 _ _ _ o_t0 o_t1 hW (lv_sub hl [1, 2, 3, 4, 0] rfl) h

set_option maxRecDepth 20000 in
theorem gc_Model_store (l : Launch) {D : va_G} {cA : Nat → ClassId} {hs : Nat → Nat} {z : gw_Sh} (F : Nat) {u : gw_St} {r0 : gw_St} {t0 : Nat} {t1 : Nat} {x2 : Int32} {x3 : Int32} (o_t0 : gw_ok z t0 9) (o_t1 : gw_ok z t1 10) (h : gf_Model_store F z u t0 t1 x2 x3 = some r0) (sz : Nat) : gw_Mv l gy_Model_store gb_Model_store 5 none gr_Model_store [.ref (hs t0), .ref (hs t1), .int x2, .int x3] D cA hs z u sz r0 := by
  refine gw_enter (by decide) (Nat.le_of_ble_eq_true rfl) ?_
  intro p e s m below meth c ls hsz C hW hr hk _ hl
  subst hsz
  exact gx_Model_store_b0 F C hr hk u t0 t1 x2 x3 o_t0 o_t1 hW (lv_sub hl [0, 1, 2, 3] rfl) h
-- GearDeskModel.load(I[II)V
def gy_Model_load : MethodName := ⟨R_Model, "load", "(I[II)V"⟩
abbrev gb_Model_load : ByteArray := prog_11_method_63_code
theorem gk_594 : Cond.code gy_Model_load gb_Model_load 5 none ∈ gt_T := gt_m7 (List.mem_of_getElem? (i := 218) rfl) rfl
def gr_Model_load : Room := gw_rm 2 86
theorem gm_Model_load : gw_Mth gy_Model_load gb_Model_load 5 none 3 := ⟨gk_594, gk_377, ⟨by decide +kernel, by decide +kernel⟩, by decide +kernel⟩
theorem gd_Model_load_0 : decode gb_Model_load 0 = .ok (.aload_n 0, 1) := by decide +kernel
theorem gd_Model_load_1 : decode gb_Model_load 1 = .ok (.iload_n 1, 1) := by decide +kernel
theorem gd_Model_load_2 : decode gb_Model_load 2 = .ok (.invokevirtual 263, 3) := by decide +kernel
theorem gd_Model_load_5 : decode gb_Model_load 5 = .ok (.iconst 0, 1) := by decide +kernel
theorem gd_Model_load_6 : decode gb_Model_load 6 = .ok (.istore 4, 2) := by decide +kernel
theorem gd_Model_load_8 : decode gb_Model_load 8 = .ok (.iload 4, 2) := by decide +kernel
theorem gd_Model_load_10 : decode gb_Model_load 10 = .ok (.bipush 16, 2) := by decide +kernel
theorem gd_Model_load_12 : decode gb_Model_load 12 = .ok (.if_icmp .ge 32, 3) := by decide +kernel
theorem gd_Model_load_15 : decode gb_Model_load 15 = .ok (.aload_n 0, 1) := by decide +kernel
theorem gd_Model_load_16 : decode gb_Model_load 16 = .ok (.getfield 104, 3) := by decide +kernel
theorem gd_Model_load_19 : decode gb_Model_load 19 = .ok (.sipush 256, 3) := by decide +kernel
theorem gd_Model_load_22 : decode gb_Model_load 22 = .ok (.iload_n 1, 1) := by decide +kernel
theorem gd_Model_load_23 : decode gb_Model_load 23 = .ok (.imul, 1) := by decide +kernel
theorem gd_Model_load_24 : decode gb_Model_load 24 = .ok (.iload 4, 2) := by decide +kernel
theorem gd_Model_load_26 : decode gb_Model_load 26 = .ok (.iadd, 1) := by decide +kernel
theorem gd_Model_load_27 : decode gb_Model_load 27 = .ok (.aload_n 2, 1) := by decide +kernel
theorem gd_Model_load_28 : decode gb_Model_load 28 = .ok (.bipush 16, 2) := by decide +kernel
theorem gd_Model_load_30 : decode gb_Model_load 30 = .ok (.iload_n 3, 1) := by decide +kernel
theorem gd_Model_load_31 : decode gb_Model_load 31 = .ok (.imul, 1) := by decide +kernel
theorem gd_Model_load_32 : decode gb_Model_load 32 = .ok (.iload 4, 2) := by decide +kernel
theorem gd_Model_load_34 : decode gb_Model_load 34 = .ok (.iadd, 1) := by decide +kernel
theorem gd_Model_load_35 : decode gb_Model_load 35 = .ok (.iaload, 1) := by decide +kernel
theorem gd_Model_load_36 : decode gb_Model_load 36 = .ok (.i2l, 1) := by decide +kernel
theorem gd_Model_load_37 : decode gb_Model_load 37 = .ok (.lastore, 1) := by decide +kernel
theorem gd_Model_load_38 : decode gb_Model_load 38 = .ok (.iinc 4 1, 3) := by decide +kernel
theorem gd_Model_load_41 : decode gb_Model_load 41 = .ok (.goto (-33), 3) := by decide +kernel
theorem gd_Model_load_44 : decode gb_Model_load 44 = .ok (.return_, 1) := by decide +kernel
def gf_Model_load_S8 (F : Nat) (z : gw_Sh)  (rc_8 : gw_St → Nat → Int32 → Nat → Int32 → Int32 → Option gw_St) (u : gw_St) (t0 : Nat) (x1 : Int32) (t2 : Nat) (x3 : Int32) (x4 : Int32) : Option gw_St :=
  if (16 : Int32) ≤ x4 then (some u) else (gf_nn (u.2.2 t0 48) fun q2 => if ((((16 : Int32) * x3) + x4) < 0 ∨ z.2.2 t2 ≤ ((((16 : Int32) * x3) + x4)).toNatClampNeg) then none else if ((((256 : Int32) * x1) + x4) < 0 ∨ z.2.2 q2 ≤ ((((256 : Int32) * x1) + x4)).toNatClampNeg) then none else gf_nm (gw_wl u q2 ((((256 : Int32) * x1) + x4)).toNatClampNeg (((u.1 t2 ((((16 : Int32) * x3) + x4)).toNatClampNeg)).toInt64)) fun u6 => gf_nm (x4 + 1) fun a8 => rc_8 u6 t0 x1 t2 x3 a8)
def gf_Model_load_L8 (F : Nat) (z : gw_Sh)  : Nat → gw_St → Nat → Int32 → Nat → Int32 → Int32 → Option gw_St
  | 0 => fun _ _ _ _ _ _ => none
  | n + 1 => fun u t0 x1 t2 x3 x4 => gf_Model_load_S8 F z  (gf_Model_load_L8 F z  n) u t0 x1 t2 x3 x4
def gf_Model_load_b0 (F : Nat) (z : gw_Sh)  (u : gw_St) (t0 : Nat) (x1 : Int32) (t2 : Nat) (x3 : Int32) : Option gw_St :=
  (gf_Model_clearWide F z u t0 x1).bind fun u10 => gf_Model_load_L8 F z  F u10 t0 x1 t2 x3 0
def gf_Model_load (F : Nat) (z : gw_Sh) (u : gw_St) (t0 : Nat) (x1 : Int32) (t2 : Nat) (x3 : Int32) : Option gw_St := gf_Model_load_b0 F z  u t0 x1 t2 x3
set_option maxHeartbeats 4000000 in
set_option maxRecDepth 20000 in
theorem gx_Model_load_S8 {p : Program} {l : Launch} {e : Env} {s : State} {m : MethodId} {args : Array Value} {below : List Frame} {meth : Method} {c : Code} {D : va_G} {cA : Nat → ClassId} {hs : Nat → Nat} {z : gw_Sh} (F : Nat) {r0 : gw_St} (C : gw_Cx p s m args c gb_Model_load 5 R_Model D cA) (hr : meth.sig.returnType = none) (hk : meth.locks = false) {rc_8 : gw_St → Nat → Int32 → Nat → Int32 → Int32 → Option gw_St} (k_8 : ∀ (u : gw_St) (t0 : Nat) (x1 : Int32) (t2 : Nat) (x3 : Int32) (x4 : Int32) (H : Heap) (locs : List Loc) (ls : Array Slot), gw_ok z t0 9 → gw_ok z t2 10 → gw_Wx D cA hs z s u H locs → lv_has ls 5 [(0, .ref (hs t0)), (1, .int x1), (2, .ref (hs t2)), (3, .int x3), (4, .int x4)] → rc_8 u t0 x1 t2 x3 x4 = some r0 → gw_Gv p l e gr_Model_load s m args below meth c D cA hs z r0 H locs ls 8 []) (u : gw_St) (t0 : Nat) (x1 : Int32) (t2 : Nat) (x3 : Int32) (x4 : Int32) (o_t0 : gw_ok z t0 9) (o_t2 : gw_ok z t2 10) {H : Heap} {locs : List Loc} {ls : Array Slot} (hW : gw_Wx D cA hs z s u H locs) (hl : lv_has ls 5 [(0, .ref (hs t0)), (1, .int x1), (2, .ref (hs t2)), (3, .int x3), (4, .int x4)]) (h : gf_Model_load_S8 F z  rc_8 u t0 x1 t2 x3 x4 = some r0) : gw_Gv p l e gr_Model_load s m args below meth c D cA hs z r0 H locs ls 8 [] := by
  obtain ⟨hx, hb, hml, hown, hts, hK⟩ := id C
  unfold gf_Model_load_S8 at h
  refine lv_iload hx hb gd_Model_load_8 (lv_at hl 4 rfl) ?_
  refine lv_bipush (v := 16) hx hb gd_Model_load_10 (by decide) ?_
  refine lv_icmp_ge (tgt := 44) hx hb gd_Model_load_12 (by decide) (fun c1 => ?_) (fun c1 => ?_)
  · have h := gf_t c1 h
    obtain rfl := Option.some.inj h
    exact gw_vret C hW hr hk gd_Model_load_44
  · have h := gf_f c1 h
    refine lv_aload_n hx hb gd_Model_load_15 rfl (lv_at hl 0 rfl) ?_
    obtain ⟨q2, e3, h⟩ := gf_nn_ok h
    refine gw_getr (k := 48) (ty := 11) (ref := R_Model) C hW o_t0 (by decide) rfl gi_Model rfl (by decide) rfl rfl gk_526 gd_Model_load_16 e3 ?_
    have o_q2 := hW.ref (d := 11) o_t0 e3 rfl
    refine lv_sipush (v := 256) hx hb gd_Model_load_19 (by decide) ?_
    refine lv_iload_n hx hb gd_Model_load_22 rfl (lv_at hl 1 rfl) ?_
    refine lv_imul hx hb gd_Model_load_23 ?_
    refine lv_iload hx hb gd_Model_load_24 (lv_at hl 4 rfl) ?_
    refine lv_iadd hx hb gd_Model_load_26 ?_
    refine lv_aload_n hx hb gd_Model_load_27 rfl (lv_at hl 2 rfl) ?_
    refine lv_bipush (v := 16) hx hb gd_Model_load_28 (by decide) ?_
    refine lv_iload_n hx hb gd_Model_load_30 rfl (lv_at hl 3 rfl) ?_
    refine lv_imul hx hb gd_Model_load_31 ?_
    refine lv_iload hx hb gd_Model_load_32 (lv_at hl 4 rfl) ?_
    refine lv_iadd hx hb gd_Model_load_34 ?_
    obtain ⟨g4, h⟩ := gf_if_ok h
    refine gw_iald C hW o_t2 g4 gd_Model_load_35 ?_
    refine lv_i2l hx hb gd_Model_load_36 rfl ?_
    obtain ⟨g5, h⟩ := gf_if_ok h
    refine gw_last C hW o_q2 g5 gd_Model_load_37 (fun u6 H locs e7 hW => ?_)
    have h := gf_nm_ok e7 h
    obtain ⟨a8, e9⟩ : ∃ y : Int32, y = x4 + 1 := ⟨_, rfl⟩
    have h := gf_nm_ok e9 h
    refine lv_iinc (v := a8) (lv' := [(4, .int a8), (0, .ref (hs t0)), (1, .int x1), (2, .ref (hs t2)), (3, .int x3)]) hx hb gd_Model_load_38 hl (k := 4) rfl (by rw [e9]; rfl) (by decide) rfl (fun ls hl => ?_)
    refine lv_goto (tgt := 8) hx hb gd_Model_load_41 (by decide) ?_
    exact k_8 u6 t0 x1 t2 x3 a8 _ _ _ o_t0 o_t2 hW (lv_sub hl [1, 2, 3, 4, 0] rfl) h
set_option maxHeartbeats 4000000 in
set_option maxRecDepth 20000 in
theorem gx_Model_load_L8 {p : Program} {l : Launch} {e : Env} {s : State} {m : MethodId} {args : Array Value} {below : List Frame} {meth : Method} {c : Code} {D : va_G} {cA : Nat → ClassId} {hs : Nat → Nat} {z : gw_Sh} (F : Nat) {r0 : gw_St} (C : gw_Cx p s m args c gb_Model_load 5 R_Model D cA) (hr : meth.sig.returnType = none) (hk : meth.locks = false) : ∀ (n : Nat), ∀ (u : gw_St) (t0 : Nat) (x1 : Int32) (t2 : Nat) (x3 : Int32) (x4 : Int32) (H : Heap) (locs : List Loc) (ls : Array Slot), gw_ok z t0 9 → gw_ok z t2 10 → gw_Wx D cA hs z s u H locs → lv_has ls 5 [(0, .ref (hs t0)), (1, .int x1), (2, .ref (hs t2)), (3, .int x3), (4, .int x4)] → gf_Model_load_L8 F z  n u t0 x1 t2 x3 x4 = some r0 → gw_Gv p l e gr_Model_load s m args below meth c D cA hs z r0 H locs ls 8 [] := by
  intro n
  induction n with
  | zero =>
    intro u t0 x1 t2 x3 x4 H locs ls o_t0 o_t2 hW hl h
    cases h
  | succ n ih =>
    intro u t0 x1 t2 x3 x4 H locs ls o_t0 o_t2 hW hl h
    exact gx_Model_load_S8 F C hr hk  ih u t0 x1 t2 x3 x4 o_t0 o_t2 hW hl h

set_option maxHeartbeats 4000000 in
set_option maxRecDepth 20000 in
theorem gx_Model_load_b0 {p : Program} {l : Launch} {e : Env} {s : State} {m : MethodId} {args : Array Value} {below : List Frame} {meth : Method} {c : Code} {D : va_G} {cA : Nat → ClassId} {hs : Nat → Nat} {z : gw_Sh} (F : Nat) {r0 : gw_St} (C : gw_Cx p s m args c gb_Model_load 5 R_Model D cA) (hr : meth.sig.returnType = none) (hk : meth.locks = false) (u : gw_St) (t0 : Nat) (x1 : Int32) (t2 : Nat) (x3 : Int32) (o_t0 : gw_ok z t0 9) (o_t2 : gw_ok z t2 10) {H : Heap} {locs : List Loc} {ls : Array Slot} (hW : gw_Wx D cA hs z s u H locs) (hl : lv_has ls 5 [(0, .ref (hs t0)), (1, .int x1), (2, .ref (hs t2)), (3, .int x3)]) (h : gf_Model_load_b0 F z   u t0 x1 t2 x3 = some r0) : gw_Gv p l e gr_Model_load s m args below meth c D cA hs z r0 H locs ls 0 [] := by
  obtain ⟨hx, hb, hml, hown, hts, hK⟩ := id C
  unfold gf_Model_load_b0 at h
  refine lv_aload_n hx hb gd_Model_load_0 rfl (lv_at hl 0 rfl) ?_
  refine lv_iload_n hx hb gd_Model_load_1 rfl (lv_at hl 1 rfl) ?_
  obtain ⟨u10, d11, h⟩ := gf_bd_ok h
  refine gw_callVv (K := R_Model) (As := [.int x1]) (rest := []) C hW (fun _ h => Or.inr h) hl.1 gm_Model_clearWide (gc_Model_clearWide l F o_t0 d11 _) gk_535 gk_536 gk_537 o_t0 (by decide) rfl rfl rfl ⟨Nat.le_of_ble_eq_true rfl, Nat.le_of_ble_eq_true rfl⟩ ⟨Nat.zero_le _, Nat.zero_le _⟩ rfl rfl (Nat.le_of_ble_eq_true rfl) gd_Model_load_2 (fun H locs hW => ?_)
  refine lv_iconst (v := 0) hx hb gd_Model_load_5 (by decide) ?_
  refine lv_istore (lv' := [(4, .int 0), (0, .ref (hs t0)), (1, .int x1), (2, .ref (hs t2)), (3, .int x3)]) hx hb gd_Model_load_6 hl (by decide) rfl (fun ls hl => ?_)
  exact gx_Model_load_L8 F C hr hk  F u10 t0 x1 t2 x3 0 _ _ _ o_t0 o_t2 hW (lv_sub hl [1, 2, 3, 4, 0] rfl) h

set_option maxRecDepth 20000 in
theorem gc_Model_load (l : Launch) {D : va_G} {cA : Nat → ClassId} {hs : Nat → Nat} {z : gw_Sh} (F : Nat) {u : gw_St} {r0 : gw_St} {t0 : Nat} {x1 : Int32} {t2 : Nat} {x3 : Int32} (o_t0 : gw_ok z t0 9) (o_t2 : gw_ok z t2 10) (h : gf_Model_load F z u t0 x1 t2 x3 = some r0) (sz : Nat) : gw_Mv l gy_Model_load gb_Model_load 5 none gr_Model_load [.ref (hs t0), .int x1, .ref (hs t2), .int x3] D cA hs z u sz r0 := by
  refine gw_enter (by decide) (Nat.le_of_ble_eq_true rfl) ?_
  intro p e s m below meth c ls hsz C hW hr hk _ hl
  subst hsz
  exact gx_Model_load_b0 F C hr hk u t0 x1 t2 x3 o_t0 o_t2 hW (lv_sub hl [0, 1, 2, 3] rfl) h
-- GearDeskModel.clashing()I
theorem gk_595 : Cond.methodLink R_Model 313 gy_Model_rankAll ∈ gt_T := gt_m7 (List.mem_of_getElem? (i := 89) rfl) rfl
theorem gk_596 : Cond.instanceMethod gy_Model_rankAll ∈ gt_T := gt_m7 (List.mem_of_getElem? (i := 91) rfl) rfl
theorem gk_597 : Cond.selects R_Model gy_Model_rankAll gy_Model_rankAll ∈ gt_T := gt_p3 (List.mem_of_getElem? (i := 14) rfl) rfl
def gy_Model_clashing : MethodName := ⟨R_Model, "clashing", "()I"⟩
abbrev gb_Model_clashing : ByteArray := prog_11_method_64_code
theorem gk_598 : Cond.code gy_Model_clashing gb_Model_clashing 2 (some .int) ∈ gt_T := gt_m7 (List.mem_of_getElem? (i := 88) rfl) rfl
def gr_Model_clashing : Room := gw_rm 4 149
theorem gm_Model_clashing : gw_Mth gy_Model_clashing gb_Model_clashing 2 (some .int) 0 := ⟨gk_598, gk_377, ⟨by decide +kernel, by decide +kernel⟩, by decide +kernel⟩
theorem gd_Model_clashing_0 : decode gb_Model_clashing 0 = .ok (.iconst 0, 1) := by decide +kernel
theorem gd_Model_clashing_1 : decode gb_Model_clashing 1 = .ok (.istore_n 1, 1) := by decide +kernel
theorem gd_Model_clashing_2 : decode gb_Model_clashing 2 = .ok (.iload_n 1, 1) := by decide +kernel
theorem gd_Model_clashing_3 : decode gb_Model_clashing 3 = .ok (.aload_n 0, 1) := by decide +kernel
theorem gd_Model_clashing_4 : decode gb_Model_clashing 4 = .ok (.getfield 223, 3) := by decide +kernel
theorem gd_Model_clashing_7 : decode gb_Model_clashing 7 = .ok (.if_icmp .ge 23, 3) := by decide +kernel
theorem gd_Model_clashing_10 : decode gb_Model_clashing 10 = .ok (.aload_n 0, 1) := by decide +kernel
theorem gd_Model_clashing_11 : decode gb_Model_clashing 11 = .ok (.getfield 89, 3) := by decide +kernel
theorem gd_Model_clashing_14 : decode gb_Model_clashing 14 = .ok (.iload_n 1, 1) := by decide +kernel
theorem gd_Model_clashing_15 : decode gb_Model_clashing 15 = .ok (.iconst 0, 1) := by decide +kernel
theorem gd_Model_clashing_16 : decode gb_Model_clashing 16 = .ok (.iastore, 1) := by decide +kernel
theorem gd_Model_clashing_17 : decode gb_Model_clashing 17 = .ok (.aload_n 0, 1) := by decide +kernel
theorem gd_Model_clashing_18 : decode gb_Model_clashing 18 = .ok (.getfield 92, 3) := by decide +kernel
theorem gd_Model_clashing_21 : decode gb_Model_clashing 21 = .ok (.iload_n 1, 1) := by decide +kernel
theorem gd_Model_clashing_22 : decode gb_Model_clashing 22 = .ok (.iconst 0, 1) := by decide +kernel
theorem gd_Model_clashing_23 : decode gb_Model_clashing 23 = .ok (.iastore, 1) := by decide +kernel
theorem gd_Model_clashing_24 : decode gb_Model_clashing 24 = .ok (.iinc 1 1, 3) := by decide +kernel
theorem gd_Model_clashing_27 : decode gb_Model_clashing 27 = .ok (.goto (-25), 3) := by decide +kernel
theorem gd_Model_clashing_30 : decode gb_Model_clashing 30 = .ok (.iconst 0, 1) := by decide +kernel
theorem gd_Model_clashing_31 : decode gb_Model_clashing 31 = .ok (.istore_n 1, 1) := by decide +kernel
theorem gd_Model_clashing_32 : decode gb_Model_clashing 32 = .ok (.iload_n 1, 1) := by decide +kernel
theorem gd_Model_clashing_33 : decode gb_Model_clashing 33 = .ok (.bipush 70, 2) := by decide +kernel
theorem gd_Model_clashing_35 : decode gb_Model_clashing 35 = .ok (.if_icmp .ge 20, 3) := by decide +kernel
theorem gd_Model_clashing_38 : decode gb_Model_clashing 38 = .ok (.aload_n 0, 1) := by decide +kernel
theorem gd_Model_clashing_39 : decode gb_Model_clashing 39 = .ok (.aload_n 0, 1) := by decide +kernel
theorem gd_Model_clashing_40 : decode gb_Model_clashing 40 = .ok (.getfield 76, 3) := by decide +kernel
theorem gd_Model_clashing_43 : decode gb_Model_clashing 43 = .ok (.iload_n 1, 1) := by decide +kernel
theorem gd_Model_clashing_44 : decode gb_Model_clashing 44 = .ok (.iaload, 1) := by decide +kernel
theorem gd_Model_clashing_45 : decode gb_Model_clashing 45 = .ok (.i2l, 1) := by decide +kernel
theorem gd_Model_clashing_46 : decode gb_Model_clashing 46 = .ok (.invokevirtual 313, 3) := by decide +kernel
theorem gd_Model_clashing_49 : decode gb_Model_clashing 49 = .ok (.iinc 1 1, 3) := by decide +kernel
theorem gd_Model_clashing_52 : decode gb_Model_clashing 52 = .ok (.goto (-20), 3) := by decide +kernel
theorem gd_Model_clashing_55 : decode gb_Model_clashing 55 = .ok (.iconst 0, 1) := by decide +kernel
theorem gd_Model_clashing_56 : decode gb_Model_clashing 56 = .ok (.istore_n 1, 1) := by decide +kernel
theorem gd_Model_clashing_57 : decode gb_Model_clashing 57 = .ok (.iload_n 1, 1) := by decide +kernel
theorem gd_Model_clashing_58 : decode gb_Model_clashing 58 = .ok (.aload_n 0, 1) := by decide +kernel
theorem gd_Model_clashing_59 : decode gb_Model_clashing 59 = .ok (.getfield 223, 3) := by decide +kernel
theorem gd_Model_clashing_62 : decode gb_Model_clashing 62 = .ok (.if_icmp .ge 26, 3) := by decide +kernel
theorem gd_Model_clashing_65 : decode gb_Model_clashing 65 = .ok (.aload_n 0, 1) := by decide +kernel
theorem gd_Model_clashing_66 : decode gb_Model_clashing 66 = .ok (.getfield 89, 3) := by decide +kernel
theorem gd_Model_clashing_69 : decode gb_Model_clashing 69 = .ok (.iload_n 1, 1) := by decide +kernel
theorem gd_Model_clashing_70 : decode gb_Model_clashing 70 = .ok (.iaload, 1) := by decide +kernel
theorem gd_Model_clashing_71 : decode gb_Model_clashing 71 = .ok (.aload_n 0, 1) := by decide +kernel
theorem gd_Model_clashing_72 : decode gb_Model_clashing 72 = .ok (.getfield 92, 3) := by decide +kernel
theorem gd_Model_clashing_75 : decode gb_Model_clashing 75 = .ok (.iload_n 1, 1) := by decide +kernel
theorem gd_Model_clashing_76 : decode gb_Model_clashing 76 = .ok (.iaload, 1) := by decide +kernel
theorem gd_Model_clashing_77 : decode gb_Model_clashing 77 = .ok (.if_icmp .ne 5, 3) := by decide +kernel
theorem gd_Model_clashing_80 : decode gb_Model_clashing 80 = .ok (.iload_n 1, 1) := by decide +kernel
theorem gd_Model_clashing_81 : decode gb_Model_clashing 81 = .ok (.ireturn, 1) := by decide +kernel
theorem gd_Model_clashing_82 : decode gb_Model_clashing 82 = .ok (.iinc 1 1, 3) := by decide +kernel
theorem gd_Model_clashing_85 : decode gb_Model_clashing 85 = .ok (.goto (-28), 3) := by decide +kernel
theorem gd_Model_clashing_88 : decode gb_Model_clashing 88 = .ok (.iconst (-1), 1) := by decide +kernel
theorem gd_Model_clashing_89 : decode gb_Model_clashing 89 = .ok (.ireturn, 1) := by decide +kernel
def gf_Model_clashing_S57 (F : Nat) (z : gw_Sh)  (rc_57 : gw_St → Nat → Int32 → Option (Int32 × gw_St)) (u : gw_St) (t0 : Nat) (x1 : Int32) : Option (Int32 × gw_St) :=
  if (u.1 t0 19) ≤ x1 then (some ((-1 : Int32), u)) else (gf_nn (u.2.2 t0 43) fun q2 => if (x1 < 0 ∨ z.2.2 q2 ≤ (x1).toNatClampNeg) then none else gf_nn (u.2.2 t0 44) fun q5 => if (x1 < 0 ∨ z.2.2 q5 ≤ (x1).toNatClampNeg) then none else if (u.1 q2 (x1).toNatClampNeg) = (u.1 q5 (x1).toNatClampNeg) then (some (x1, u)) else (gf_nm (x1 + 1) fun a9 => rc_57 u t0 a9))
def gf_Model_clashing_L57 (F : Nat) (z : gw_Sh)  : Nat → gw_St → Nat → Int32 → Option (Int32 × gw_St)
  | 0 => fun _ _ _ => none
  | n + 1 => fun u t0 x1 => gf_Model_clashing_S57 F z  (gf_Model_clashing_L57 F z  n) u t0 x1
def gf_Model_clashing_S32 (F : Nat) (z : gw_Sh)  (rc_32 : gw_St → Nat → Int32 → Option (Int32 × gw_St)) (u : gw_St) (t0 : Nat) (x1 : Int32) : Option (Int32 × gw_St) :=
  if (70 : Int32) ≤ x1 then (gf_Model_clashing_L57 F z  F u t0 0) else (gf_nn (u.2.2 t0 38) fun q12 => if (x1 < 0 ∨ z.2.2 q12 ≤ (x1).toNatClampNeg) then none else (gf_Model_rankAll F z u t0 (((u.1 q12 (x1).toNatClampNeg)).toInt64)).bind fun u15 => gf_nm (x1 + 1) fun a17 => rc_32 u15 t0 a17)
def gf_Model_clashing_L32 (F : Nat) (z : gw_Sh)  : Nat → gw_St → Nat → Int32 → Option (Int32 × gw_St)
  | 0 => fun _ _ _ => none
  | n + 1 => fun u t0 x1 => gf_Model_clashing_S32 F z  (gf_Model_clashing_L32 F z  n) u t0 x1
def gf_Model_clashing_S2 (F : Nat) (z : gw_Sh)  (rc_2 : gw_St → Nat → Int32 → Option (Int32 × gw_St)) (u : gw_St) (t0 : Nat) (x1 : Int32) : Option (Int32 × gw_St) :=
  if (u.1 t0 19) ≤ x1 then (gf_Model_clashing_L32 F z  F u t0 0) else (gf_nn (u.2.2 t0 43) fun q20 => if (x1 < 0 ∨ z.2.2 q20 ≤ (x1).toNatClampNeg) then none else gf_nm (gw_wi u q20 (x1).toNatClampNeg (0 : Int32)) fun u23 => gf_nn (u23.2.2 t0 44) fun q25 => if (x1 < 0 ∨ z.2.2 q25 ≤ (x1).toNatClampNeg) then none else gf_nm (gw_wi u23 q25 (x1).toNatClampNeg (0 : Int32)) fun u28 => gf_nm (x1 + 1) fun a30 => rc_2 u28 t0 a30)
def gf_Model_clashing_L2 (F : Nat) (z : gw_Sh)  : Nat → gw_St → Nat → Int32 → Option (Int32 × gw_St)
  | 0 => fun _ _ _ => none
  | n + 1 => fun u t0 x1 => gf_Model_clashing_S2 F z  (gf_Model_clashing_L2 F z  n) u t0 x1
def gf_Model_clashing_b0 (F : Nat) (z : gw_Sh)  (u : gw_St) (t0 : Nat) : Option (Int32 × gw_St) :=
  gf_Model_clashing_L2 F z  F u t0 0
def gf_Model_clashing (F : Nat) (z : gw_Sh) (u : gw_St) (t0 : Nat) : Option (Int32 × gw_St) := gf_Model_clashing_b0 F z  u t0
set_option maxHeartbeats 4000000 in
set_option maxRecDepth 20000 in
theorem gx_Model_clashing_S57 {p : Program} {l : Launch} {e : Env} {s : State} {m : MethodId} {args : Array Value} {below : List Frame} {meth : Method} {c : Code} {D : va_G} {cA : Nat → ClassId} {hs : Nat → Nat} {z : gw_Sh} (F : Nat) {r0 : (Int32 × gw_St)} (C : gw_Cx p s m args c gb_Model_clashing 2 R_Model D cA) (hr : meth.sig.returnType = (some .int)) (hk : meth.locks = false) {rc_57 : gw_St → Nat → Int32 → Option (Int32 × gw_St)} (k_57 : ∀ (u : gw_St) (t0 : Nat) (x1 : Int32) (H : Heap) (locs : List Loc) (ls : Array Slot), gw_ok z t0 9 → gw_Wx D cA hs z s u H locs → lv_has ls 2 [(0, .ref (hs t0)), (1, .int x1)] → rc_57 u t0 x1 = some r0 → gw_Gi p l e gr_Model_clashing s m args below meth c D cA hs z r0 H locs ls 57 []) (u : gw_St) (t0 : Nat) (x1 : Int32) (o_t0 : gw_ok z t0 9) {H : Heap} {locs : List Loc} {ls : Array Slot} (hW : gw_Wx D cA hs z s u H locs) (hl : lv_has ls 2 [(0, .ref (hs t0)), (1, .int x1)]) (h : gf_Model_clashing_S57 F z  rc_57 u t0 x1 = some r0) : gw_Gi p l e gr_Model_clashing s m args below meth c D cA hs z r0 H locs ls 57 [] := by
  obtain ⟨hx, hb, hml, hown, hts, hK⟩ := id C
  unfold gf_Model_clashing_S57 at h
  refine lv_iload_n hx hb gd_Model_clashing_57 rfl (lv_at hl 1 rfl) ?_
  refine lv_aload_n hx hb gd_Model_clashing_58 rfl (lv_at hl 0 rfl) ?_
  refine gw_geti (k := 19) (ref := R_Model) C hW o_t0 (by decide) rfl gi_Model rfl (by decide) rfl rfl gk_466 gd_Model_clashing_59 ?_
  refine lv_icmp_ge (tgt := 88) hx hb gd_Model_clashing_62 (by decide) (fun c1 => ?_) (fun c1 => ?_)
  · have h := gf_t c1 h
    refine lv_iconst (v := (-1)) hx hb gd_Model_clashing_88 (by decide) ?_
    obtain rfl := Option.some.inj h
    exact gw_iret C hW hr hk gd_Model_clashing_89
  · have h := gf_f c1 h
    refine lv_aload_n hx hb gd_Model_clashing_65 rfl (lv_at hl 0 rfl) ?_
    obtain ⟨q2, e3, h⟩ := gf_nn_ok h
    refine gw_getr (k := 43) (ty := 10) (ref := R_Model) C hW o_t0 (by decide) rfl gi_Model rfl (by decide) rfl rfl gk_513 gd_Model_clashing_66 e3 ?_
    have o_q2 := hW.ref (d := 10) o_t0 e3 rfl
    refine lv_iload_n hx hb gd_Model_clashing_69 rfl (lv_at hl 1 rfl) ?_
    obtain ⟨g4, h⟩ := gf_if_ok h
    refine gw_iald C hW o_q2 g4 gd_Model_clashing_70 ?_
    refine lv_aload_n hx hb gd_Model_clashing_71 rfl (lv_at hl 0 rfl) ?_
    obtain ⟨q5, e6, h⟩ := gf_nn_ok h
    refine gw_getr (k := 44) (ty := 10) (ref := R_Model) C hW o_t0 (by decide) rfl gi_Model rfl (by decide) rfl rfl gk_506 gd_Model_clashing_72 e6 ?_
    have o_q5 := hW.ref (d := 10) o_t0 e6 rfl
    refine lv_iload_n hx hb gd_Model_clashing_75 rfl (lv_at hl 1 rfl) ?_
    obtain ⟨g7, h⟩ := gf_if_ok h
    refine gw_iald C hW o_q5 g7 gd_Model_clashing_76 ?_
    refine lv_icmp_ne (tgt := 82) hx hb gd_Model_clashing_77 (by decide) (fun c8 => ?_) (fun c8 => ?_)
    · have h := gf_f c8 h
      obtain ⟨a9, e10⟩ : ∃ y : Int32, y = x1 + 1 := ⟨_, rfl⟩
      have h := gf_nm_ok e10 h
      refine lv_iinc (v := a9) (lv' := [(1, .int a9), (0, .ref (hs t0))]) hx hb gd_Model_clashing_82 hl (k := 1) rfl (by rw [e10]; rfl) (by decide) rfl (fun ls hl => ?_)
      refine lv_goto (tgt := 57) hx hb gd_Model_clashing_85 (by decide) ?_
      exact k_57 u t0 a9 _ _ _ o_t0 hW (lv_sub hl [1, 0] rfl) h
    · have h := gf_t c8 h
      refine lv_iload_n hx hb gd_Model_clashing_80 rfl (lv_at hl 1 rfl) ?_
      obtain rfl := Option.some.inj h
      exact gw_iret C hW hr hk gd_Model_clashing_81
set_option maxHeartbeats 4000000 in
set_option maxRecDepth 20000 in
theorem gx_Model_clashing_L57 {p : Program} {l : Launch} {e : Env} {s : State} {m : MethodId} {args : Array Value} {below : List Frame} {meth : Method} {c : Code} {D : va_G} {cA : Nat → ClassId} {hs : Nat → Nat} {z : gw_Sh} (F : Nat) {r0 : (Int32 × gw_St)} (C : gw_Cx p s m args c gb_Model_clashing 2 R_Model D cA) (hr : meth.sig.returnType = (some .int)) (hk : meth.locks = false) : ∀ (n : Nat), ∀ (u : gw_St) (t0 : Nat) (x1 : Int32) (H : Heap) (locs : List Loc) (ls : Array Slot), gw_ok z t0 9 → gw_Wx D cA hs z s u H locs → lv_has ls 2 [(0, .ref (hs t0)), (1, .int x1)] → gf_Model_clashing_L57 F z  n u t0 x1 = some r0 → gw_Gi p l e gr_Model_clashing s m args below meth c D cA hs z r0 H locs ls 57 [] := by
  intro n
  induction n with
  | zero =>
    intro u t0 x1 H locs ls o_t0 hW hl h
    cases h
  | succ n ih =>
    intro u t0 x1 H locs ls o_t0 hW hl h
    exact gx_Model_clashing_S57 F C hr hk  ih u t0 x1 o_t0 hW hl h

set_option maxHeartbeats 4000000 in
set_option maxRecDepth 20000 in
theorem gx_Model_clashing_S32 {p : Program} {l : Launch} {e : Env} {s : State} {m : MethodId} {args : Array Value} {below : List Frame} {meth : Method} {c : Code} {D : va_G} {cA : Nat → ClassId} {hs : Nat → Nat} {z : gw_Sh} (F : Nat) {r0 : (Int32 × gw_St)} (C : gw_Cx p s m args c gb_Model_clashing 2 R_Model D cA) (hr : meth.sig.returnType = (some .int)) (hk : meth.locks = false) {rc_32 : gw_St → Nat → Int32 → Option (Int32 × gw_St)} (k_32 : ∀ (u : gw_St) (t0 : Nat) (x1 : Int32) (H : Heap) (locs : List Loc) (ls : Array Slot), gw_ok z t0 9 → gw_Wx D cA hs z s u H locs → lv_has ls 2 [(0, .ref (hs t0)), (1, .int x1)] → rc_32 u t0 x1 = some r0 → gw_Gi p l e gr_Model_clashing s m args below meth c D cA hs z r0 H locs ls 32 []) (u : gw_St) (t0 : Nat) (x1 : Int32) (o_t0 : gw_ok z t0 9) {H : Heap} {locs : List Loc} {ls : Array Slot} (hW : gw_Wx D cA hs z s u H locs) (hl : lv_has ls 2 [(0, .ref (hs t0)), (1, .int x1)]) (h : gf_Model_clashing_S32 F z  rc_32 u t0 x1 = some r0) : gw_Gi p l e gr_Model_clashing s m args below meth c D cA hs z r0 H locs ls 32 [] := by
  obtain ⟨hx, hb, hml, hown, hts, hK⟩ := id C
  unfold gf_Model_clashing_S32 at h
  refine lv_iload_n hx hb gd_Model_clashing_32 rfl (lv_at hl 1 rfl) ?_
  refine lv_bipush (v := 70) hx hb gd_Model_clashing_33 (by decide) ?_
  refine lv_icmp_ge (tgt := 55) hx hb gd_Model_clashing_35 (by decide) (fun c11 => ?_) (fun c11 => ?_)
  · have h := gf_t c11 h
    refine lv_iconst (v := 0) hx hb gd_Model_clashing_55 (by decide) ?_
    refine lv_istore_n (lv' := [(1, .int 0), (0, .ref (hs t0))]) hx hb gd_Model_clashing_56 rfl hl (by decide) rfl (fun ls hl => ?_)
    exact gx_Model_clashing_L57 F C hr hk  F u t0 0 _ _ _ o_t0 hW (lv_sub hl [1, 0] rfl) h
  · have h := gf_f c11 h
    refine lv_aload_n hx hb gd_Model_clashing_38 rfl (lv_at hl 0 rfl) ?_
    refine lv_aload_n hx hb gd_Model_clashing_39 rfl (lv_at hl 0 rfl) ?_
    obtain ⟨q12, e13, h⟩ := gf_nn_ok h
    refine gw_getr (k := 38) (ty := 10) (ref := R_Model) C hW o_t0 (by decide) rfl gi_Model rfl (by decide) rfl rfl gk_524 gd_Model_clashing_40 e13 ?_
    have o_q12 := hW.ref (d := 10) o_t0 e13 rfl
    refine lv_iload_n hx hb gd_Model_clashing_43 rfl (lv_at hl 1 rfl) ?_
    obtain ⟨g14, h⟩ := gf_if_ok h
    refine gw_iald C hW o_q12 g14 gd_Model_clashing_44 ?_
    refine lv_i2l hx hb gd_Model_clashing_45 rfl ?_
    obtain ⟨u15, d16, h⟩ := gf_bd_ok h
    refine gw_callVv (K := R_Model) (As := [.long (((u.1 q12 (x1).toNatClampNeg)).toInt64)]) (rest := []) C hW (fun _ h => Or.inr h) hl.1 gm_Model_rankAll (gc_Model_rankAll l F o_t0 d16 _) gk_595 gk_596 gk_597 o_t0 (by decide) rfl rfl rfl ⟨Nat.le_of_ble_eq_true rfl, Nat.le_of_ble_eq_true rfl⟩ ⟨Nat.zero_le _, Nat.zero_le _⟩ rfl rfl (Nat.le_of_ble_eq_true rfl) gd_Model_clashing_46 (fun H locs hW => ?_)
    obtain ⟨a17, e18⟩ : ∃ y : Int32, y = x1 + 1 := ⟨_, rfl⟩
    have h := gf_nm_ok e18 h
    refine lv_iinc (v := a17) (lv' := [(1, .int a17), (0, .ref (hs t0))]) hx hb gd_Model_clashing_49 hl (k := 1) rfl (by rw [e18]; rfl) (by decide) rfl (fun ls hl => ?_)
    refine lv_goto (tgt := 32) hx hb gd_Model_clashing_52 (by decide) ?_
    exact k_32 u15 t0 a17 _ _ _ o_t0 hW (lv_sub hl [1, 0] rfl) h
set_option maxHeartbeats 4000000 in
set_option maxRecDepth 20000 in
theorem gx_Model_clashing_L32 {p : Program} {l : Launch} {e : Env} {s : State} {m : MethodId} {args : Array Value} {below : List Frame} {meth : Method} {c : Code} {D : va_G} {cA : Nat → ClassId} {hs : Nat → Nat} {z : gw_Sh} (F : Nat) {r0 : (Int32 × gw_St)} (C : gw_Cx p s m args c gb_Model_clashing 2 R_Model D cA) (hr : meth.sig.returnType = (some .int)) (hk : meth.locks = false) : ∀ (n : Nat), ∀ (u : gw_St) (t0 : Nat) (x1 : Int32) (H : Heap) (locs : List Loc) (ls : Array Slot), gw_ok z t0 9 → gw_Wx D cA hs z s u H locs → lv_has ls 2 [(0, .ref (hs t0)), (1, .int x1)] → gf_Model_clashing_L32 F z  n u t0 x1 = some r0 → gw_Gi p l e gr_Model_clashing s m args below meth c D cA hs z r0 H locs ls 32 [] := by
  intro n
  induction n with
  | zero =>
    intro u t0 x1 H locs ls o_t0 hW hl h
    cases h
  | succ n ih =>
    intro u t0 x1 H locs ls o_t0 hW hl h
    exact gx_Model_clashing_S32 F C hr hk  ih u t0 x1 o_t0 hW hl h

set_option maxHeartbeats 4000000 in
set_option maxRecDepth 20000 in
theorem gx_Model_clashing_S2 {p : Program} {l : Launch} {e : Env} {s : State} {m : MethodId} {args : Array Value} {below : List Frame} {meth : Method} {c : Code} {D : va_G} {cA : Nat → ClassId} {hs : Nat → Nat} {z : gw_Sh} (F : Nat) {r0 : (Int32 × gw_St)} (C : gw_Cx p s m args c gb_Model_clashing 2 R_Model D cA) (hr : meth.sig.returnType = (some .int)) (hk : meth.locks = false) {rc_2 : gw_St → Nat → Int32 → Option (Int32 × gw_St)} (k_2 : ∀ (u : gw_St) (t0 : Nat) (x1 : Int32) (H : Heap) (locs : List Loc) (ls : Array Slot), gw_ok z t0 9 → gw_Wx D cA hs z s u H locs → lv_has ls 2 [(0, .ref (hs t0)), (1, .int x1)] → rc_2 u t0 x1 = some r0 → gw_Gi p l e gr_Model_clashing s m args below meth c D cA hs z r0 H locs ls 2 []) (u : gw_St) (t0 : Nat) (x1 : Int32) (o_t0 : gw_ok z t0 9) {H : Heap} {locs : List Loc} {ls : Array Slot} (hW : gw_Wx D cA hs z s u H locs) (hl : lv_has ls 2 [(0, .ref (hs t0)), (1, .int x1)]) (h : gf_Model_clashing_S2 F z  rc_2 u t0 x1 = some r0) : gw_Gi p l e gr_Model_clashing s m args below meth c D cA hs z r0 H locs ls 2 [] := by
  obtain ⟨hx, hb, hml, hown, hts, hK⟩ := id C
  unfold gf_Model_clashing_S2 at h
  refine lv_iload_n hx hb gd_Model_clashing_2 rfl (lv_at hl 1 rfl) ?_
  refine lv_aload_n hx hb gd_Model_clashing_3 rfl (lv_at hl 0 rfl) ?_
  refine gw_geti (k := 19) (ref := R_Model) C hW o_t0 (by decide) rfl gi_Model rfl (by decide) rfl rfl gk_466 gd_Model_clashing_4 ?_
  refine lv_icmp_ge (tgt := 30) hx hb gd_Model_clashing_7 (by decide) (fun c19 => ?_) (fun c19 => ?_)
  · have h := gf_t c19 h
    refine lv_iconst (v := 0) hx hb gd_Model_clashing_30 (by decide) ?_
    refine lv_istore_n (lv' := [(1, .int 0), (0, .ref (hs t0))]) hx hb gd_Model_clashing_31 rfl hl (by decide) rfl (fun ls hl => ?_)
    exact gx_Model_clashing_L32 F C hr hk  F u t0 0 _ _ _ o_t0 hW (lv_sub hl [1, 0] rfl) h
  · have h := gf_f c19 h
    refine lv_aload_n hx hb gd_Model_clashing_10 rfl (lv_at hl 0 rfl) ?_
    obtain ⟨q20, e21, h⟩ := gf_nn_ok h
    refine gw_getr (k := 43) (ty := 10) (ref := R_Model) C hW o_t0 (by decide) rfl gi_Model rfl (by decide) rfl rfl gk_513 gd_Model_clashing_11 e21 ?_
    have o_q20 := hW.ref (d := 10) o_t0 e21 rfl
    refine lv_iload_n hx hb gd_Model_clashing_14 rfl (lv_at hl 1 rfl) ?_
    refine lv_iconst (v := 0) hx hb gd_Model_clashing_15 (by decide) ?_
    obtain ⟨g22, h⟩ := gf_if_ok h
    refine gw_iast C hW o_q20 g22 gd_Model_clashing_16 (fun u23 H locs e24 hW => ?_)
    have h := gf_nm_ok e24 h
    refine lv_aload_n hx hb gd_Model_clashing_17 rfl (lv_at hl 0 rfl) ?_
    obtain ⟨q25, e26, h⟩ := gf_nn_ok h
    refine gw_getr (k := 44) (ty := 10) (ref := R_Model) C hW o_t0 (by decide) rfl gi_Model rfl (by decide) rfl rfl gk_506 gd_Model_clashing_18 e26 ?_
    have o_q25 := hW.ref (d := 10) o_t0 e26 rfl
    refine lv_iload_n hx hb gd_Model_clashing_21 rfl (lv_at hl 1 rfl) ?_
    refine lv_iconst (v := 0) hx hb gd_Model_clashing_22 (by decide) ?_
    obtain ⟨g27, h⟩ := gf_if_ok h
    refine gw_iast C hW o_q25 g27 gd_Model_clashing_23 (fun u28 H locs e29 hW => ?_)
    have h := gf_nm_ok e29 h
    obtain ⟨a30, e31⟩ : ∃ y : Int32, y = x1 + 1 := ⟨_, rfl⟩
    have h := gf_nm_ok e31 h
    refine lv_iinc (v := a30) (lv' := [(1, .int a30), (0, .ref (hs t0))]) hx hb gd_Model_clashing_24 hl (k := 1) rfl (by rw [e31]; rfl) (by decide) rfl (fun ls hl => ?_)
    refine lv_goto (tgt := 2) hx hb gd_Model_clashing_27 (by decide) ?_
    exact k_2 u28 t0 a30 _ _ _ o_t0 hW (lv_sub hl [1, 0] rfl) h
set_option maxHeartbeats 4000000 in
set_option maxRecDepth 20000 in
theorem gx_Model_clashing_L2 {p : Program} {l : Launch} {e : Env} {s : State} {m : MethodId} {args : Array Value} {below : List Frame} {meth : Method} {c : Code} {D : va_G} {cA : Nat → ClassId} {hs : Nat → Nat} {z : gw_Sh} (F : Nat) {r0 : (Int32 × gw_St)} (C : gw_Cx p s m args c gb_Model_clashing 2 R_Model D cA) (hr : meth.sig.returnType = (some .int)) (hk : meth.locks = false) : ∀ (n : Nat), ∀ (u : gw_St) (t0 : Nat) (x1 : Int32) (H : Heap) (locs : List Loc) (ls : Array Slot), gw_ok z t0 9 → gw_Wx D cA hs z s u H locs → lv_has ls 2 [(0, .ref (hs t0)), (1, .int x1)] → gf_Model_clashing_L2 F z  n u t0 x1 = some r0 → gw_Gi p l e gr_Model_clashing s m args below meth c D cA hs z r0 H locs ls 2 [] := by
  intro n
  induction n with
  | zero =>
    intro u t0 x1 H locs ls o_t0 hW hl h
    cases h
  | succ n ih =>
    intro u t0 x1 H locs ls o_t0 hW hl h
    exact gx_Model_clashing_S2 F C hr hk  ih u t0 x1 o_t0 hW hl h

set_option maxHeartbeats 4000000 in
set_option maxRecDepth 20000 in
theorem gx_Model_clashing_b0 {p : Program} {l : Launch} {e : Env} {s : State} {m : MethodId} {args : Array Value} {below : List Frame} {meth : Method} {c : Code} {D : va_G} {cA : Nat → ClassId} {hs : Nat → Nat} {z : gw_Sh} (F : Nat) {r0 : (Int32 × gw_St)} (C : gw_Cx p s m args c gb_Model_clashing 2 R_Model D cA) (hr : meth.sig.returnType = (some .int)) (hk : meth.locks = false) (u : gw_St) (t0 : Nat) (o_t0 : gw_ok z t0 9) {H : Heap} {locs : List Loc} {ls : Array Slot} (hW : gw_Wx D cA hs z s u H locs) (hl : lv_has ls 2 [(0, .ref (hs t0))]) (h : gf_Model_clashing_b0 F z   u t0 = some r0) : gw_Gi p l e gr_Model_clashing s m args below meth c D cA hs z r0 H locs ls 0 [] := by
  obtain ⟨hx, hb, hml, hown, hts, hK⟩ := id C
  unfold gf_Model_clashing_b0 at h
  refine lv_iconst (v := 0) hx hb gd_Model_clashing_0 (by decide) ?_
  refine lv_istore_n (lv' := [(1, .int 0), (0, .ref (hs t0))]) hx hb gd_Model_clashing_1 rfl hl (by decide) rfl (fun ls hl => ?_)
  exact gx_Model_clashing_L2 F C hr hk  F u t0 0 _ _ _ o_t0 hW (lv_sub hl [1, 0] rfl) h

set_option maxRecDepth 20000 in
theorem gc_Model_clashing (l : Launch) {D : va_G} {cA : Nat → ClassId} {hs : Nat → Nat} {z : gw_Sh} (F : Nat) {u : gw_St} {r0 : (Int32 × gw_St)} {t0 : Nat} (o_t0 : gw_ok z t0 9) (h : gf_Model_clashing F z u t0 = some r0) (sz : Nat) : gw_Mi l gy_Model_clashing gb_Model_clashing 2 (some .int) gr_Model_clashing [.ref (hs t0)] D cA hs z u sz r0 := by
  refine gw_enter (by decide) (Nat.le_of_ble_eq_true rfl) ?_
  intro p e s m below meth c ls hsz C hW hr hk _ hl
  subst hsz
  exact gx_Model_clashing_b0 F C hr hk u t0 o_t0 hW (lv_sub hl [0] rfl) h
-- GearDeskModel.findSpeeds()Z
theorem gk_599 : Cond.fieldLink R_Model 58 R_Model "nowHas" "[Z" ∈ gt_T := gt_m6 (List.mem_of_getElem? (i := 84) rfl) rfl
theorem gk_600 : Cond.fieldLink R_Model 61 R_Model "nowSigns" "[I" ∈ gt_T := gt_m6 (List.mem_of_getElem? (i := 85) rfl) rfl
theorem gk_601 : Cond.methodLink R_Model 320 gy_Model_rebuild ∈ gt_T := gt_m7 (List.mem_of_getElem? (i := 129) rfl) rfl
theorem gk_602 : Cond.instanceMethod gy_Model_rebuild ∈ gt_T := gt_m7 (List.mem_of_getElem? (i := 131) rfl) rfl
theorem gk_603 : Cond.selects R_Model gy_Model_rebuild gy_Model_rebuild ∈ gt_T := gt_p4 (List.mem_of_getElem? (i := 7) rfl) rfl
theorem gk_604 : Cond.methodLink R_Model 323 gy_Model_isLarge ∈ gt_T := gt_m7 (List.mem_of_getElem? (i := 187) rfl) rfl
theorem gk_605 : Cond.instanceMethod gy_Model_isLarge ∈ gt_T := gt_m7 (List.mem_of_getElem? (i := 189) rfl) rfl
theorem gk_606 : Cond.selects R_Model gy_Model_isLarge gy_Model_isLarge ∈ gt_T := gt_p5 (List.mem_of_getElem? (i := 5) rfl) rfl
theorem gk_607 : Cond.fieldLink R_Model 64 R_Model "nowOvers" "[I" ∈ gt_T := gt_m6 (List.mem_of_getElem? (i := 86) rfl) rfl
theorem gk_608 : Cond.methodLink R_Model 326 gy_Model_store ∈ gt_T := gt_m7 (List.mem_of_getElem? (i := 191) rfl) rfl
theorem gk_609 : Cond.instanceMethod gy_Model_store ∈ gt_T := gt_m7 (List.mem_of_getElem? (i := 193) rfl) rfl
theorem gk_610 : Cond.selects R_Model gy_Model_store gy_Model_store ∈ gt_T := gt_p5 (List.mem_of_getElem? (i := 6) rfl) rfl
theorem gk_611 : Cond.fieldLink R_Model 67 R_Model "nowUnders" "[I" ∈ gt_T := gt_m6 (List.mem_of_getElem? (i := 87) rfl) rfl
theorem gk_612 : Cond.methodLink R_Model 317 gy_Model_speedsWith ∈ gt_T := gt_m7 (List.mem_of_getElem? (i := 125) rfl) rfl
theorem gk_613 : Cond.instanceMethod gy_Model_speedsWith ∈ gt_T := gt_m7 (List.mem_of_getElem? (i := 127) rfl) rfl
theorem gk_614 : Cond.selects R_Model gy_Model_speedsWith gy_Model_speedsWith ∈ gt_T := gt_p4 (List.mem_of_getElem? (i := 6) rfl) rfl
def gy_Model_findSpeeds : MethodName := ⟨R_Model, "findSpeeds", "()Z"⟩
abbrev gb_Model_findSpeeds : ByteArray := prog_11_method_65_code
theorem gk_615 : Cond.code gy_Model_findSpeeds gb_Model_findSpeeds 3 (some .boolean) ∈ gt_T := gt_m7 (List.mem_of_getElem? (i := 124) rfl) rfl
def gr_Model_findSpeeds : Room := gw_rm 5 169
theorem gm_Model_findSpeeds : gw_Mth gy_Model_findSpeeds gb_Model_findSpeeds 3 (some .boolean) 0 := ⟨gk_615, gk_377, ⟨by decide +kernel, by decide +kernel⟩, by decide +kernel⟩
theorem gd_Model_findSpeeds_0 : decode gb_Model_findSpeeds 0 = .ok (.aload_n 0, 1) := by decide +kernel
theorem gd_Model_findSpeeds_1 : decode gb_Model_findSpeeds 1 = .ok (.getfield 223, 3) := by decide +kernel
theorem gd_Model_findSpeeds_4 : decode gb_Model_findSpeeds 4 = .ok (.ifCond .ne 7, 3) := by decide +kernel
theorem gd_Model_findSpeeds_7 : decode gb_Model_findSpeeds 7 = .ok (.iconst 1, 1) := by decide +kernel
theorem gd_Model_findSpeeds_8 : decode gb_Model_findSpeeds 8 = .ok (.goto 14, 3) := by decide +kernel
theorem gd_Model_findSpeeds_11 : decode gb_Model_findSpeeds 11 = .ok (.aload_n 0, 1) := by decide +kernel
theorem gd_Model_findSpeeds_12 : decode gb_Model_findSpeeds 12 = .ok (.getfield 92, 3) := by decide +kernel
theorem gd_Model_findSpeeds_15 : decode gb_Model_findSpeeds 15 = .ok (.aload_n 0, 1) := by decide +kernel
theorem gd_Model_findSpeeds_16 : decode gb_Model_findSpeeds 16 = .ok (.getfield 223, 3) := by decide +kernel
theorem gd_Model_findSpeeds_19 : decode gb_Model_findSpeeds 19 = .ok (.iconst 1, 1) := by decide +kernel
theorem gd_Model_findSpeeds_20 : decode gb_Model_findSpeeds 20 = .ok (.isub, 1) := by decide +kernel
theorem gd_Model_findSpeeds_21 : decode gb_Model_findSpeeds 21 = .ok (.iaload, 1) := by decide +kernel
theorem gd_Model_findSpeeds_22 : decode gb_Model_findSpeeds 22 = .ok (.istore_n 1, 1) := by decide +kernel
theorem gd_Model_findSpeeds_23 : decode gb_Model_findSpeeds 23 = .ok (.iconst 0, 1) := by decide +kernel
theorem gd_Model_findSpeeds_24 : decode gb_Model_findSpeeds 24 = .ok (.istore_n 2, 1) := by decide +kernel
theorem gd_Model_findSpeeds_25 : decode gb_Model_findSpeeds 25 = .ok (.iload_n 2, 1) := by decide +kernel
theorem gd_Model_findSpeeds_26 : decode gb_Model_findSpeeds 26 = .ok (.aload_n 0, 1) := by decide +kernel
theorem gd_Model_findSpeeds_27 : decode gb_Model_findSpeeds 27 = .ok (.getfield 217, 3) := by decide +kernel
theorem gd_Model_findSpeeds_30 : decode gb_Model_findSpeeds 30 = .ok (.if_icmp .ge 16, 3) := by decide +kernel
theorem gd_Model_findSpeeds_33 : decode gb_Model_findSpeeds 33 = .ok (.aload_n 0, 1) := by decide +kernel
theorem gd_Model_findSpeeds_34 : decode gb_Model_findSpeeds 34 = .ok (.getfield 98, 3) := by decide +kernel
theorem gd_Model_findSpeeds_37 : decode gb_Model_findSpeeds 37 = .ok (.iload_n 2, 1) := by decide +kernel
theorem gd_Model_findSpeeds_38 : decode gb_Model_findSpeeds 38 = .ok (.iconst 0, 1) := by decide +kernel
theorem gd_Model_findSpeeds_39 : decode gb_Model_findSpeeds 39 = .ok (.bastore, 1) := by decide +kernel
theorem gd_Model_findSpeeds_40 : decode gb_Model_findSpeeds 40 = .ok (.iinc 2 1, 3) := by decide +kernel
theorem gd_Model_findSpeeds_43 : decode gb_Model_findSpeeds 43 = .ok (.goto (-18), 3) := by decide +kernel
theorem gd_Model_findSpeeds_46 : decode gb_Model_findSpeeds 46 = .ok (.iconst 0, 1) := by decide +kernel
theorem gd_Model_findSpeeds_47 : decode gb_Model_findSpeeds 47 = .ok (.istore_n 2, 1) := by decide +kernel
theorem gd_Model_findSpeeds_48 : decode gb_Model_findSpeeds 48 = .ok (.iload_n 2, 1) := by decide +kernel
theorem gd_Model_findSpeeds_49 : decode gb_Model_findSpeeds 49 = .ok (.bipush 70, 2) := by decide +kernel
theorem gd_Model_findSpeeds_51 : decode gb_Model_findSpeeds 51 = .ok (.if_icmp .ge 15, 3) := by decide +kernel
theorem gd_Model_findSpeeds_54 : decode gb_Model_findSpeeds 54 = .ok (.aload_n 0, 1) := by decide +kernel
theorem gd_Model_findSpeeds_55 : decode gb_Model_findSpeeds 55 = .ok (.iload_n 2, 1) := by decide +kernel
theorem gd_Model_findSpeeds_56 : decode gb_Model_findSpeeds 56 = .ok (.iload_n 1, 1) := by decide +kernel
theorem gd_Model_findSpeeds_57 : decode gb_Model_findSpeeds 57 = .ok (.invokevirtual 317, 3) := by decide +kernel
theorem gd_Model_findSpeeds_60 : decode gb_Model_findSpeeds 60 = .ok (.iinc 2 1, 3) := by decide +kernel
theorem gd_Model_findSpeeds_63 : decode gb_Model_findSpeeds 63 = .ok (.goto (-15), 3) := by decide +kernel
theorem gd_Model_findSpeeds_66 : decode gb_Model_findSpeeds 66 = .ok (.iconst 0, 1) := by decide +kernel
theorem gd_Model_findSpeeds_67 : decode gb_Model_findSpeeds 67 = .ok (.istore_n 2, 1) := by decide +kernel
theorem gd_Model_findSpeeds_68 : decode gb_Model_findSpeeds 68 = .ok (.iload_n 2, 1) := by decide +kernel
theorem gd_Model_findSpeeds_69 : decode gb_Model_findSpeeds 69 = .ok (.aload_n 0, 1) := by decide +kernel
theorem gd_Model_findSpeeds_70 : decode gb_Model_findSpeeds 70 = .ok (.getfield 217, 3) := by decide +kernel
theorem gd_Model_findSpeeds_73 : decode gb_Model_findSpeeds 73 = .ok (.if_icmp .ge 87, 3) := by decide +kernel
theorem gd_Model_findSpeeds_76 : decode gb_Model_findSpeeds 76 = .ok (.aload_n 0, 1) := by decide +kernel
theorem gd_Model_findSpeeds_77 : decode gb_Model_findSpeeds 77 = .ok (.getfield 58, 3) := by decide +kernel
theorem gd_Model_findSpeeds_80 : decode gb_Model_findSpeeds 80 = .ok (.iload_n 2, 1) := by decide +kernel
theorem gd_Model_findSpeeds_81 : decode gb_Model_findSpeeds 81 = .ok (.aload_n 0, 1) := by decide +kernel
theorem gd_Model_findSpeeds_82 : decode gb_Model_findSpeeds 82 = .ok (.getfield 98, 3) := by decide +kernel
theorem gd_Model_findSpeeds_85 : decode gb_Model_findSpeeds 85 = .ok (.iload_n 2, 1) := by decide +kernel
theorem gd_Model_findSpeeds_86 : decode gb_Model_findSpeeds 86 = .ok (.baload, 1) := by decide +kernel
theorem gd_Model_findSpeeds_87 : decode gb_Model_findSpeeds 87 = .ok (.ifCond .ne 7, 3) := by decide +kernel
theorem gd_Model_findSpeeds_90 : decode gb_Model_findSpeeds 90 = .ok (.iconst 1, 1) := by decide +kernel
theorem gd_Model_findSpeeds_91 : decode gb_Model_findSpeeds 91 = .ok (.goto 4, 3) := by decide +kernel
theorem gd_Model_findSpeeds_94 : decode gb_Model_findSpeeds 94 = .ok (.iconst 0, 1) := by decide +kernel
theorem gd_Model_findSpeeds_95 : decode gb_Model_findSpeeds 95 = .ok (.bastore, 1) := by decide +kernel
theorem gd_Model_findSpeeds_96 : decode gb_Model_findSpeeds 96 = .ok (.aload_n 0, 1) := by decide +kernel
theorem gd_Model_findSpeeds_97 : decode gb_Model_findSpeeds 97 = .ok (.getfield 58, 3) := by decide +kernel
theorem gd_Model_findSpeeds_100 : decode gb_Model_findSpeeds 100 = .ok (.iload_n 2, 1) := by decide +kernel
theorem gd_Model_findSpeeds_101 : decode gb_Model_findSpeeds 101 = .ok (.baload, 1) := by decide +kernel
theorem gd_Model_findSpeeds_102 : decode gb_Model_findSpeeds 102 = .ok (.ifCond .eq 52, 3) := by decide +kernel
theorem gd_Model_findSpeeds_105 : decode gb_Model_findSpeeds 105 = .ok (.aload_n 0, 1) := by decide +kernel
theorem gd_Model_findSpeeds_106 : decode gb_Model_findSpeeds 106 = .ok (.getfield 61, 3) := by decide +kernel
theorem gd_Model_findSpeeds_109 : decode gb_Model_findSpeeds 109 = .ok (.iload_n 2, 1) := by decide +kernel
theorem gd_Model_findSpeeds_110 : decode gb_Model_findSpeeds 110 = .ok (.aload_n 0, 1) := by decide +kernel
theorem gd_Model_findSpeeds_111 : decode gb_Model_findSpeeds 111 = .ok (.iload_n 2, 1) := by decide +kernel
theorem gd_Model_findSpeeds_112 : decode gb_Model_findSpeeds 112 = .ok (.invokevirtual 320, 3) := by decide +kernel
theorem gd_Model_findSpeeds_115 : decode gb_Model_findSpeeds 115 = .ok (.iastore, 1) := by decide +kernel
theorem gd_Model_findSpeeds_116 : decode gb_Model_findSpeeds 116 = .ok (.aload_n 0, 1) := by decide +kernel
theorem gd_Model_findSpeeds_117 : decode gb_Model_findSpeeds 117 = .ok (.iconst 0, 1) := by decide +kernel
theorem gd_Model_findSpeeds_118 : decode gb_Model_findSpeeds 118 = .ok (.invokevirtual 323, 3) := by decide +kernel
theorem gd_Model_findSpeeds_121 : decode gb_Model_findSpeeds 121 = .ok (.ifCond .ne 11, 3) := by decide +kernel
theorem gd_Model_findSpeeds_124 : decode gb_Model_findSpeeds 124 = .ok (.aload_n 0, 1) := by decide +kernel
theorem gd_Model_findSpeeds_125 : decode gb_Model_findSpeeds 125 = .ok (.iconst 1, 1) := by decide +kernel
theorem gd_Model_findSpeeds_126 : decode gb_Model_findSpeeds 126 = .ok (.invokevirtual 323, 3) := by decide +kernel
theorem gd_Model_findSpeeds_129 : decode gb_Model_findSpeeds 129 = .ok (.ifCond .eq 5, 3) := by decide +kernel
theorem gd_Model_findSpeeds_132 : decode gb_Model_findSpeeds 132 = .ok (.iconst 0, 1) := by decide +kernel
theorem gd_Model_findSpeeds_133 : decode gb_Model_findSpeeds 133 = .ok (.ireturn, 1) := by decide +kernel
theorem gd_Model_findSpeeds_134 : decode gb_Model_findSpeeds 134 = .ok (.aload_n 0, 1) := by decide +kernel
theorem gd_Model_findSpeeds_135 : decode gb_Model_findSpeeds 135 = .ok (.aload_n 0, 1) := by decide +kernel
theorem gd_Model_findSpeeds_136 : decode gb_Model_findSpeeds 136 = .ok (.getfield 64, 3) := by decide +kernel
theorem gd_Model_findSpeeds_139 : decode gb_Model_findSpeeds 139 = .ok (.iload_n 2, 1) := by decide +kernel
theorem gd_Model_findSpeeds_140 : decode gb_Model_findSpeeds 140 = .ok (.iconst 0, 1) := by decide +kernel
theorem gd_Model_findSpeeds_141 : decode gb_Model_findSpeeds 141 = .ok (.invokevirtual 326, 3) := by decide +kernel
theorem gd_Model_findSpeeds_144 : decode gb_Model_findSpeeds 144 = .ok (.aload_n 0, 1) := by decide +kernel
theorem gd_Model_findSpeeds_145 : decode gb_Model_findSpeeds 145 = .ok (.aload_n 0, 1) := by decide +kernel
theorem gd_Model_findSpeeds_146 : decode gb_Model_findSpeeds 146 = .ok (.getfield 67, 3) := by decide +kernel
theorem gd_Model_findSpeeds_149 : decode gb_Model_findSpeeds 149 = .ok (.iload_n 2, 1) := by decide +kernel
theorem gd_Model_findSpeeds_150 : decode gb_Model_findSpeeds 150 = .ok (.iconst 1, 1) := by decide +kernel
theorem gd_Model_findSpeeds_151 : decode gb_Model_findSpeeds 151 = .ok (.invokevirtual 326, 3) := by decide +kernel
theorem gd_Model_findSpeeds_154 : decode gb_Model_findSpeeds 154 = .ok (.iinc 2 1, 3) := by decide +kernel
theorem gd_Model_findSpeeds_157 : decode gb_Model_findSpeeds 157 = .ok (.goto (-89), 3) := by decide +kernel
theorem gd_Model_findSpeeds_160 : decode gb_Model_findSpeeds 160 = .ok (.iconst 1, 1) := by decide +kernel
theorem gd_Model_findSpeeds_161 : decode gb_Model_findSpeeds 161 = .ok (.ireturn, 1) := by decide +kernel
def gf_Model_findSpeeds_b154 (F : Nat) (z : gw_Sh) (rc_68 : gw_St → Nat → Int32 → Option (Int32 × gw_St)) (u : gw_St) (t0 : Nat) (x2 : Int32) : Option (Int32 × gw_St) :=
  gf_nm (x2 + 1) fun a1 => rc_68 u t0 a1
def gf_Model_findSpeeds_b132 (F : Nat) (z : gw_Sh)  (u : gw_St)  : Option (Int32 × gw_St) :=
  if ¬ ((0 : Int32) &&& 1 = (0 : Int32)) then none else some ((0 : Int32), u)
def gf_Model_findSpeeds_b95 (F : Nat) (z : gw_Sh) (rc_68 : gw_St → Nat → Int32 → Option (Int32 × gw_St)) (u : gw_St) (t0 : Nat) (x2 : Int32) (st0 : Nat) (sx1 : Int32) (sx2 : Int32) : Option (Int32 × gw_St) :=
  if (sx1 < 0 ∨ z.2.2 st0 ≤ (sx1).toNatClampNeg) then none else gf_nm (gw_wi u st0 (sx1).toNatClampNeg (vp_nar .boolean sx2)) fun u5 => gf_nn (u5.2.2 t0 32) fun q7 => if (x2 < 0 ∨ z.2.2 q7 ≤ (x2).toNatClampNeg) then none else if (u5.1 q7 (x2).toNatClampNeg) = 0 then (gf_Model_findSpeeds_b154 F z rc_68 u5 t0 x2) else (gf_nn (u5.2.2 t0 33) fun q11 => gf_cl (gf_Model_rebuild F z u5 t0 x2) fun a15 u13 => if (x2 < 0 ∨ z.2.2 q11 ≤ (x2).toNatClampNeg) then none else gf_nm (gw_wi u13 q11 (x2).toNatClampNeg a15) fun u17 => gf_cl (gf_Model_isLarge F z u17 t0 (0 : Int32)) fun a21 u19 => if a21 = 0 then (gf_cl (gf_Model_isLarge F z u19 t0 (1 : Int32)) fun a25 u23 => if a25 = 0 then (gf_nn (u23.2.2 t0 34) fun q27 => (gf_Model_store F z u23 t0 q27 x2 (0 : Int32)).bind fun u29 => gf_nn (u29.2.2 t0 35) fun q31 => (gf_Model_store F z u29 t0 q31 x2 (1 : Int32)).bind fun u33 => gf_Model_findSpeeds_b154 F z rc_68 u33 t0 x2) else (gf_Model_findSpeeds_b132 F z  u23 )) else (gf_Model_findSpeeds_b132 F z  u19 ))
def gf_Model_findSpeeds_S68 (F : Nat) (z : gw_Sh)  (rc_68 : gw_St → Nat → Int32 → Option (Int32 × gw_St)) (u : gw_St) (t0 : Nat) (x2 : Int32) : Option (Int32 × gw_St) :=
  if (u.1 t0 18) ≤ x2 then (if ¬ ((1 : Int32) &&& 1 = (1 : Int32)) then none else some ((1 : Int32), u)) else (gf_nn (u.2.2 t0 32) fun q37 => gf_nn (u.2.2 t0 46) fun q39 => if (x2 < 0 ∨ z.2.2 q39 ≤ (x2).toNatClampNeg) then none else if (u.1 q39 (x2).toNatClampNeg) = 0 then (gf_Model_findSpeeds_b95 F z rc_68 u t0 x2 q37 x2 1) else (gf_Model_findSpeeds_b95 F z rc_68 u t0 x2 q37 x2 0))
def gf_Model_findSpeeds_L68 (F : Nat) (z : gw_Sh)  : Nat → gw_St → Nat → Int32 → Option (Int32 × gw_St)
  | 0 => fun _ _ _ => none
  | n + 1 => fun u t0 x2 => gf_Model_findSpeeds_S68 F z  (gf_Model_findSpeeds_L68 F z  n) u t0 x2
def gf_Model_findSpeeds_S48 (F : Nat) (z : gw_Sh)  (rc_48 : gw_St → Nat → Int32 → Int32 → Option (Int32 × gw_St)) (u : gw_St) (t0 : Nat) (x1 : Int32) (x2 : Int32) : Option (Int32 × gw_St) :=
  if (70 : Int32) ≤ x2 then (gf_Model_findSpeeds_L68 F z  F u t0 0) else ((gf_Model_speedsWith F z u t0 x2 x1).bind fun u44 => gf_nm (x2 + 1) fun a46 => rc_48 u44 t0 x1 a46)
def gf_Model_findSpeeds_L48 (F : Nat) (z : gw_Sh)  : Nat → gw_St → Nat → Int32 → Int32 → Option (Int32 × gw_St)
  | 0 => fun _ _ _ _ => none
  | n + 1 => fun u t0 x1 x2 => gf_Model_findSpeeds_S48 F z  (gf_Model_findSpeeds_L48 F z  n) u t0 x1 x2
def gf_Model_findSpeeds_S25 (F : Nat) (z : gw_Sh)  (rc_25 : gw_St → Nat → Int32 → Int32 → Option (Int32 × gw_St)) (u : gw_St) (t0 : Nat) (x1 : Int32) (x2 : Int32) : Option (Int32 × gw_St) :=
  if (u.1 t0 18) ≤ x2 then (gf_Model_findSpeeds_L48 F z  F u t0 x1 0) else (gf_nn (u.2.2 t0 46) fun q49 => if (x2 < 0 ∨ z.2.2 q49 ≤ (x2).toNatClampNeg) then none else gf_nm (gw_wi u q49 (x2).toNatClampNeg (vp_nar .boolean (0 : Int32))) fun u52 => gf_nm (x2 + 1) fun a54 => rc_25 u52 t0 x1 a54)
def gf_Model_findSpeeds_L25 (F : Nat) (z : gw_Sh)  : Nat → gw_St → Nat → Int32 → Int32 → Option (Int32 × gw_St)
  | 0 => fun _ _ _ _ => none
  | n + 1 => fun u t0 x1 x2 => gf_Model_findSpeeds_S25 F z  (gf_Model_findSpeeds_L25 F z  n) u t0 x1 x2
def gf_Model_findSpeeds_b22 (F : Nat) (z : gw_Sh)  (u : gw_St) (t0 : Nat) (sx0 : Int32) : Option (Int32 × gw_St) :=
  gf_Model_findSpeeds_L25 F z  F u t0 sx0 0
def gf_Model_findSpeeds_b0 (F : Nat) (z : gw_Sh)  (u : gw_St) (t0 : Nat) : Option (Int32 × gw_St) :=
  if (u.1 t0 19) = 0 then (gf_Model_findSpeeds_b22 F z  u t0 1) else (gf_nn (u.2.2 t0 44) fun q57 => if (((u.1 t0 19) - (1 : Int32)) < 0 ∨ z.2.2 q57 ≤ (((u.1 t0 19) - (1 : Int32))).toNatClampNeg) then none else gf_Model_findSpeeds_b22 F z  u t0 (u.1 q57 (((u.1 t0 19) - (1 : Int32))).toNatClampNeg))
def gf_Model_findSpeeds (F : Nat) (z : gw_Sh) (u : gw_St) (t0 : Nat) : Option (Int32 × gw_St) := gf_Model_findSpeeds_b0 F z  u t0
set_option maxHeartbeats 4000000 in
set_option maxRecDepth 20000 in
theorem gx_Model_findSpeeds_b154 {p : Program} {l : Launch} {e : Env} {s : State} {m : MethodId} {args : Array Value} {below : List Frame} {meth : Method} {c : Code} {D : va_G} {cA : Nat → ClassId} {hs : Nat → Nat} {z : gw_Sh} (F : Nat) {r0 : (Int32 × gw_St)} (C : gw_Cx p s m args c gb_Model_findSpeeds 3 R_Model D cA) (hr : meth.sig.returnType = (some .boolean)) (hk : meth.locks = false) {rc_68 : gw_St → Nat → Int32 → Option (Int32 × gw_St)} (k_68 : ∀ (u : gw_St) (t0 : Nat) (x2 : Int32) (H : Heap) (locs : List Loc) (ls : Array Slot), gw_ok z t0 9 → gw_Wx D cA hs z s u H locs → lv_has ls 3 [(0, .ref (hs t0)), (2, .int x2)] → rc_68 u t0 x2 = some r0 → gw_Gi p l e gr_Model_findSpeeds s m args below meth c D cA hs z r0 H locs ls 68 []) (u : gw_St) (t0 : Nat) (x2 : Int32) (o_t0 : gw_ok z t0 9) {H : Heap} {locs : List Loc} {ls : Array Slot} (hW : gw_Wx D cA hs z s u H locs) (hl : lv_has ls 3 [(0, .ref (hs t0)), (2, .int x2)]) (h : gf_Model_findSpeeds_b154 F z rc_68  u t0 x2 = some r0) : gw_Gi p l e gr_Model_findSpeeds s m args below meth c D cA hs z r0 H locs ls 154 [] := by
  obtain ⟨hx, hb, hml, hown, hts, hK⟩ := id C
  unfold gf_Model_findSpeeds_b154 at h
  obtain ⟨a1, e2⟩ : ∃ y : Int32, y = x2 + 1 := ⟨_, rfl⟩
  have h := gf_nm_ok e2 h
  refine lv_iinc (v := a1) (lv' := [(2, .int a1), (0, .ref (hs t0))]) hx hb gd_Model_findSpeeds_154 hl (k := 1) rfl (by rw [e2]; rfl) (by decide) rfl (fun ls hl => ?_)
  refine lv_goto (tgt := 68) hx hb gd_Model_findSpeeds_157 (by decide) ?_
  exact k_68 u t0 a1 _ _ _ o_t0 hW (lv_sub hl [1, 0] rfl) h

set_option maxHeartbeats 4000000 in
set_option maxRecDepth 20000 in
theorem gx_Model_findSpeeds_b132 {p : Program} {l : Launch} {e : Env} {s : State} {m : MethodId} {args : Array Value} {below : List Frame} {meth : Method} {c : Code} {D : va_G} {cA : Nat → ClassId} {hs : Nat → Nat} {z : gw_Sh} (F : Nat) {r0 : (Int32 × gw_St)} (C : gw_Cx p s m args c gb_Model_findSpeeds 3 R_Model D cA) (hr : meth.sig.returnType = (some .boolean)) (hk : meth.locks = false) (u : gw_St)   {H : Heap} {locs : List Loc} {ls : Array Slot} (hW : gw_Wx D cA hs z s u H locs) (hl : lv_has ls 3 []) (h : gf_Model_findSpeeds_b132 F z   u  = some r0) : gw_Gi p l e gr_Model_findSpeeds s m args below meth c D cA hs z r0 H locs ls 132 [] := by
  obtain ⟨hx, hb, hml, hown, hts, hK⟩ := id C
  unfold gf_Model_findSpeeds_b132 at h
  refine lv_iconst (v := 0) hx hb gd_Model_findSpeeds_132 (by decide) ?_
  obtain ⟨g3, h⟩ := gf_if_ok h
  obtain rfl := Option.some.inj h
  exact gw_zret C hW hr (Decidable.not_not.mp g3) hk gd_Model_findSpeeds_133

set_option maxHeartbeats 4000000 in
set_option maxRecDepth 20000 in
theorem gx_Model_findSpeeds_b95 {p : Program} {l : Launch} {e : Env} {s : State} {m : MethodId} {args : Array Value} {below : List Frame} {meth : Method} {c : Code} {D : va_G} {cA : Nat → ClassId} {hs : Nat → Nat} {z : gw_Sh} (F : Nat) {r0 : (Int32 × gw_St)} (C : gw_Cx p s m args c gb_Model_findSpeeds 3 R_Model D cA) (hr : meth.sig.returnType = (some .boolean)) (hk : meth.locks = false) {rc_68 : gw_St → Nat → Int32 → Option (Int32 × gw_St)} (k_68 : ∀ (u : gw_St) (t0 : Nat) (x2 : Int32) (H : Heap) (locs : List Loc) (ls : Array Slot), gw_ok z t0 9 → gw_Wx D cA hs z s u H locs → lv_has ls 3 [(0, .ref (hs t0)), (2, .int x2)] → rc_68 u t0 x2 = some r0 → gw_Gi p l e gr_Model_findSpeeds s m args below meth c D cA hs z r0 H locs ls 68 []) (u : gw_St) (t0 : Nat) (x2 : Int32) (st0 : Nat) (sx1 : Int32) (sx2 : Int32) (o_t0 : gw_ok z t0 9) (o_st0 : gw_ok z st0 12) {H : Heap} {locs : List Loc} {ls : Array Slot} (hW : gw_Wx D cA hs z s u H locs) (hl : lv_has ls 3 [(0, .ref (hs t0)), (2, .int x2)]) (h : gf_Model_findSpeeds_b95 F z rc_68  u t0 x2 st0 sx1 sx2 = some r0) : gw_Gi p l e gr_Model_findSpeeds s m args below meth c D cA hs z r0 H locs ls 95 [.int sx2, .int sx1, .ref (hs st0)] := by
  obtain ⟨hx, hb, hml, hown, hts, hK⟩ := id C
  unfold gf_Model_findSpeeds_b95 at h
  obtain ⟨g4, h⟩ := gf_if_ok h
  refine gw_zast C hW o_st0 g4 gd_Model_findSpeeds_95 (fun u5 H locs e6 hW => ?_)
  have h := gf_nm_ok e6 h
  refine lv_aload_n hx hb gd_Model_findSpeeds_96 rfl (lv_at hl 0 rfl) ?_
  obtain ⟨q7, e8, h⟩ := gf_nn_ok h
  refine gw_getr (k := 32) (ty := 12) (ref := R_Model) C hW o_t0 (by decide) rfl gi_Model rfl (by decide) rfl rfl gk_599 gd_Model_findSpeeds_97 e8 ?_
  have o_q7 := hW.ref (d := 12) o_t0 e8 rfl
  refine lv_iload_n hx hb gd_Model_findSpeeds_100 rfl (lv_at hl 1 rfl) ?_
  obtain ⟨g9, h⟩ := gf_if_ok h
  refine gw_zald C hW o_q7 g9 gd_Model_findSpeeds_101 ?_
  refine lv_if_eq (tgt := 154) hx hb gd_Model_findSpeeds_102 (by decide) (fun c10 => ?_) (fun c10 => ?_)
  · have h := gf_t c10 h
    exact gx_Model_findSpeeds_b154 F C hr hk k_68 u5 t0 x2 o_t0 hW (lv_sub hl [0, 1] rfl) h
  · have h := gf_f c10 h
    refine lv_aload_n hx hb gd_Model_findSpeeds_105 rfl (lv_at hl 0 rfl) ?_
    obtain ⟨q11, e12, h⟩ := gf_nn_ok h
    refine gw_getr (k := 33) (ty := 10) (ref := R_Model) C hW o_t0 (by decide) rfl gi_Model rfl (by decide) rfl rfl gk_600 gd_Model_findSpeeds_106 e12 ?_
    have o_q11 := hW.ref (d := 10) o_t0 e12 rfl
    refine lv_iload_n hx hb gd_Model_findSpeeds_109 rfl (lv_at hl 1 rfl) ?_
    refine lv_aload_n hx hb gd_Model_findSpeeds_110 rfl (lv_at hl 0 rfl) ?_
    refine lv_iload_n hx hb gd_Model_findSpeeds_111 rfl (lv_at hl 1 rfl) ?_
    obtain ⟨a15, u13, d14, h⟩ := gf_cl_ok h
    refine gw_callVi (K := R_Model) (As := [.int x2]) (rest := [.int x2, .ref (hs q11)]) C hW (fun _ h => Or.inr h) hl.1 gm_Model_rebuild (gc_Model_rebuild l F o_t0 d14 _) gk_601 gk_602 gk_603 o_t0 (by decide) rfl rfl rfl ⟨Nat.le_of_ble_eq_true rfl, Nat.le_of_ble_eq_true rfl⟩ ⟨Nat.zero_le _, Nat.zero_le _⟩ rfl rfl (Nat.le_of_ble_eq_true rfl) gd_Model_findSpeeds_112 (fun H locs hW => ?_)
    obtain ⟨g16, h⟩ := gf_if_ok h
    refine gw_iast C hW o_q11 g16 gd_Model_findSpeeds_115 (fun u17 H locs e18 hW => ?_)
    have h := gf_nm_ok e18 h
    refine lv_aload_n hx hb gd_Model_findSpeeds_116 rfl (lv_at hl 0 rfl) ?_
    refine lv_iconst (v := 0) hx hb gd_Model_findSpeeds_117 (by decide) ?_
    obtain ⟨a21, u19, d20, h⟩ := gf_cl_ok h
    refine gw_callVi (K := R_Model) (As := [.int (0 : Int32)]) (rest := []) C hW (fun _ h => Or.inr h) hl.1 gm_Model_isLarge (gc_Model_isLarge l F o_t0 d20 _) gk_604 gk_605 gk_606 o_t0 (by decide) rfl rfl rfl ⟨Nat.le_of_ble_eq_true rfl, Nat.le_of_ble_eq_true rfl⟩ ⟨Nat.zero_le _, Nat.zero_le _⟩ rfl rfl (Nat.le_of_ble_eq_true rfl) gd_Model_findSpeeds_118 (fun H locs hW => ?_)
    refine lv_if_ne (tgt := 132) hx hb gd_Model_findSpeeds_121 (by decide) (fun c22 => ?_) (fun c22 => ?_)
    · have h := gf_f c22 h
      exact gx_Model_findSpeeds_b132 F C hr hk  u19   hW (lv_sub hl [] rfl) h
    · have h := gf_t c22 h
      refine lv_aload_n hx hb gd_Model_findSpeeds_124 rfl (lv_at hl 0 rfl) ?_
      refine lv_iconst (v := 1) hx hb gd_Model_findSpeeds_125 (by decide) ?_
      obtain ⟨a25, u23, d24, h⟩ := gf_cl_ok h
      refine gw_callVi (K := R_Model) (As := [.int (1 : Int32)]) (rest := []) C hW (fun _ h => Or.inr h) hl.1 gm_Model_isLarge (gc_Model_isLarge l F o_t0 d24 _) gk_604 gk_605 gk_606 o_t0 (by decide) rfl rfl rfl ⟨Nat.le_of_ble_eq_true rfl, Nat.le_of_ble_eq_true rfl⟩ ⟨Nat.zero_le _, Nat.zero_le _⟩ rfl rfl (Nat.le_of_ble_eq_true rfl) gd_Model_findSpeeds_126 (fun H locs hW => ?_)
      refine lv_if_eq (tgt := 134) hx hb gd_Model_findSpeeds_129 (by decide) (fun c26 => ?_) (fun c26 => ?_)
      · have h := gf_t c26 h
        refine lv_aload_n hx hb gd_Model_findSpeeds_134 rfl (lv_at hl 0 rfl) ?_
        refine lv_aload_n hx hb gd_Model_findSpeeds_135 rfl (lv_at hl 0 rfl) ?_
        obtain ⟨q27, e28, h⟩ := gf_nn_ok h
        refine gw_getr (k := 34) (ty := 10) (ref := R_Model) C hW o_t0 (by decide) rfl gi_Model rfl (by decide) rfl rfl gk_607 gd_Model_findSpeeds_136 e28 ?_
        have o_q27 := hW.ref (d := 10) o_t0 e28 rfl
        refine lv_iload_n hx hb gd_Model_findSpeeds_139 rfl (lv_at hl 1 rfl) ?_
        refine lv_iconst (v := 0) hx hb gd_Model_findSpeeds_140 (by decide) ?_
        obtain ⟨u29, d30, h⟩ := gf_bd_ok h
        refine gw_callVv (K := R_Model) (As := [.ref (hs q27), .int x2, .int (0 : Int32)]) (rest := []) C hW (fun _ h => Or.inr h) hl.1 gm_Model_store (gc_Model_store l F o_t0 o_q27 d30 _) gk_608 gk_609 gk_610 o_t0 (by decide) rfl rfl rfl ⟨Nat.le_of_ble_eq_true rfl, Nat.le_of_ble_eq_true rfl⟩ ⟨Nat.zero_le _, Nat.zero_le _⟩ rfl rfl (Nat.le_of_ble_eq_true rfl) gd_Model_findSpeeds_141 (fun H locs hW => ?_)
        refine lv_aload_n hx hb gd_Model_findSpeeds_144 rfl (lv_at hl 0 rfl) ?_
        refine lv_aload_n hx hb gd_Model_findSpeeds_145 rfl (lv_at hl 0 rfl) ?_
        obtain ⟨q31, e32, h⟩ := gf_nn_ok h
        refine gw_getr (k := 35) (ty := 10) (ref := R_Model) C hW o_t0 (by decide) rfl gi_Model rfl (by decide) rfl rfl gk_611 gd_Model_findSpeeds_146 e32 ?_
        have o_q31 := hW.ref (d := 10) o_t0 e32 rfl
        refine lv_iload_n hx hb gd_Model_findSpeeds_149 rfl (lv_at hl 1 rfl) ?_
        refine lv_iconst (v := 1) hx hb gd_Model_findSpeeds_150 (by decide) ?_
        obtain ⟨u33, d34, h⟩ := gf_bd_ok h
        refine gw_callVv (K := R_Model) (As := [.ref (hs q31), .int x2, .int (1 : Int32)]) (rest := []) C hW (fun _ h => Or.inr h) hl.1 gm_Model_store (gc_Model_store l F o_t0 o_q31 d34 _) gk_608 gk_609 gk_610 o_t0 (by decide) rfl rfl rfl ⟨Nat.le_of_ble_eq_true rfl, Nat.le_of_ble_eq_true rfl⟩ ⟨Nat.zero_le _, Nat.zero_le _⟩ rfl rfl (Nat.le_of_ble_eq_true rfl) gd_Model_findSpeeds_151 (fun H locs hW => ?_)
        exact gx_Model_findSpeeds_b154 F C hr hk k_68 u33 t0 x2 o_t0 hW (lv_sub hl [0, 1] rfl) h
      · have h := gf_f c26 h
        exact gx_Model_findSpeeds_b132 F C hr hk  u23   hW (lv_sub hl [] rfl) h

set_option maxHeartbeats 4000000 in
set_option maxRecDepth 20000 in
theorem gx_Model_findSpeeds_S68 {p : Program} {l : Launch} {e : Env} {s : State} {m : MethodId} {args : Array Value} {below : List Frame} {meth : Method} {c : Code} {D : va_G} {cA : Nat → ClassId} {hs : Nat → Nat} {z : gw_Sh} (F : Nat) {r0 : (Int32 × gw_St)} (C : gw_Cx p s m args c gb_Model_findSpeeds 3 R_Model D cA) (hr : meth.sig.returnType = (some .boolean)) (hk : meth.locks = false) {rc_68 : gw_St → Nat → Int32 → Option (Int32 × gw_St)} (k_68 : ∀ (u : gw_St) (t0 : Nat) (x2 : Int32) (H : Heap) (locs : List Loc) (ls : Array Slot), gw_ok z t0 9 → gw_Wx D cA hs z s u H locs → lv_has ls 3 [(0, .ref (hs t0)), (2, .int x2)] → rc_68 u t0 x2 = some r0 → gw_Gi p l e gr_Model_findSpeeds s m args below meth c D cA hs z r0 H locs ls 68 []) (u : gw_St) (t0 : Nat) (x2 : Int32) (o_t0 : gw_ok z t0 9) {H : Heap} {locs : List Loc} {ls : Array Slot} (hW : gw_Wx D cA hs z s u H locs) (hl : lv_has ls 3 [(0, .ref (hs t0)), (2, .int x2)]) (h : gf_Model_findSpeeds_S68 F z  rc_68 u t0 x2 = some r0) : gw_Gi p l e gr_Model_findSpeeds s m args below meth c D cA hs z r0 H locs ls 68 [] := by
  obtain ⟨hx, hb, hml, hown, hts, hK⟩ := id C
  unfold gf_Model_findSpeeds_S68 at h
  refine lv_iload_n hx hb gd_Model_findSpeeds_68 rfl (lv_at hl 1 rfl) ?_
  refine lv_aload_n hx hb gd_Model_findSpeeds_69 rfl (lv_at hl 0 rfl) ?_
  refine gw_geti (k := 18) (ref := R_Model) C hW o_t0 (by decide) rfl gi_Model rfl (by decide) rfl rfl gk_461 gd_Model_findSpeeds_70 ?_
  refine lv_icmp_ge (tgt := 160) hx hb gd_Model_findSpeeds_73 (by decide) (fun c35 => ?_) (fun c35 => ?_)
  · have h := gf_t c35 h
    refine lv_iconst (v := 1) hx hb gd_Model_findSpeeds_160 (by decide) ?_
    obtain ⟨g36, h⟩ := gf_if_ok h
    obtain rfl := Option.some.inj h
    exact gw_zret C hW hr (Decidable.not_not.mp g36) hk gd_Model_findSpeeds_161
  · have h := gf_f c35 h
    refine lv_aload_n hx hb gd_Model_findSpeeds_76 rfl (lv_at hl 0 rfl) ?_
    obtain ⟨q37, e38, h⟩ := gf_nn_ok h
    refine gw_getr (k := 32) (ty := 12) (ref := R_Model) C hW o_t0 (by decide) rfl gi_Model rfl (by decide) rfl rfl gk_599 gd_Model_findSpeeds_77 e38 ?_
    have o_q37 := hW.ref (d := 12) o_t0 e38 rfl
    refine lv_iload_n hx hb gd_Model_findSpeeds_80 rfl (lv_at hl 1 rfl) ?_
    refine lv_aload_n hx hb gd_Model_findSpeeds_81 rfl (lv_at hl 0 rfl) ?_
    obtain ⟨q39, e40, h⟩ := gf_nn_ok h
    refine gw_getr (k := 46) (ty := 12) (ref := R_Model) C hW o_t0 (by decide) rfl gi_Model rfl (by decide) rfl rfl gk_522 gd_Model_findSpeeds_82 e40 ?_
    have o_q39 := hW.ref (d := 12) o_t0 e40 rfl
    refine lv_iload_n hx hb gd_Model_findSpeeds_85 rfl (lv_at hl 1 rfl) ?_
    obtain ⟨g41, h⟩ := gf_if_ok h
    refine gw_zald C hW o_q39 g41 gd_Model_findSpeeds_86 ?_
    refine lv_if_ne (tgt := 94) hx hb gd_Model_findSpeeds_87 (by decide) (fun c42 => ?_) (fun c42 => ?_)
    · have h := gf_f c42 h
      refine lv_iconst (v := 0) hx hb gd_Model_findSpeeds_94 (by decide) ?_
      exact gx_Model_findSpeeds_b95 F C hr hk k_68 u t0 x2 q37 x2 0 o_t0 o_q37 hW (lv_sub hl [0, 1] rfl) h
    · have h := gf_t c42 h
      refine lv_iconst (v := 1) hx hb gd_Model_findSpeeds_90 (by decide) ?_
      refine lv_goto (tgt := 95) hx hb gd_Model_findSpeeds_91 (by decide) ?_
      exact gx_Model_findSpeeds_b95 F C hr hk k_68 u t0 x2 q37 x2 1 o_t0 o_q37 hW (lv_sub hl [0, 1] rfl) h
set_option maxHeartbeats 4000000 in
set_option maxRecDepth 20000 in
theorem gx_Model_findSpeeds_L68 {p : Program} {l : Launch} {e : Env} {s : State} {m : MethodId} {args : Array Value} {below : List Frame} {meth : Method} {c : Code} {D : va_G} {cA : Nat → ClassId} {hs : Nat → Nat} {z : gw_Sh} (F : Nat) {r0 : (Int32 × gw_St)} (C : gw_Cx p s m args c gb_Model_findSpeeds 3 R_Model D cA) (hr : meth.sig.returnType = (some .boolean)) (hk : meth.locks = false) : ∀ (n : Nat), ∀ (u : gw_St) (t0 : Nat) (x2 : Int32) (H : Heap) (locs : List Loc) (ls : Array Slot), gw_ok z t0 9 → gw_Wx D cA hs z s u H locs → lv_has ls 3 [(0, .ref (hs t0)), (2, .int x2)] → gf_Model_findSpeeds_L68 F z  n u t0 x2 = some r0 → gw_Gi p l e gr_Model_findSpeeds s m args below meth c D cA hs z r0 H locs ls 68 [] := by
  intro n
  induction n with
  | zero =>
    intro u t0 x2 H locs ls o_t0 hW hl h
    cases h
  | succ n ih =>
    intro u t0 x2 H locs ls o_t0 hW hl h
    exact gx_Model_findSpeeds_S68 F C hr hk  ih u t0 x2 o_t0 hW hl h

set_option maxHeartbeats 4000000 in
set_option maxRecDepth 20000 in
theorem gx_Model_findSpeeds_S48 {p : Program} {l : Launch} {e : Env} {s : State} {m : MethodId} {args : Array Value} {below : List Frame} {meth : Method} {c : Code} {D : va_G} {cA : Nat → ClassId} {hs : Nat → Nat} {z : gw_Sh} (F : Nat) {r0 : (Int32 × gw_St)} (C : gw_Cx p s m args c gb_Model_findSpeeds 3 R_Model D cA) (hr : meth.sig.returnType = (some .boolean)) (hk : meth.locks = false) {rc_48 : gw_St → Nat → Int32 → Int32 → Option (Int32 × gw_St)} (k_48 : ∀ (u : gw_St) (t0 : Nat) (x1 : Int32) (x2 : Int32) (H : Heap) (locs : List Loc) (ls : Array Slot), gw_ok z t0 9 → gw_Wx D cA hs z s u H locs → lv_has ls 3 [(0, .ref (hs t0)), (1, .int x1), (2, .int x2)] → rc_48 u t0 x1 x2 = some r0 → gw_Gi p l e gr_Model_findSpeeds s m args below meth c D cA hs z r0 H locs ls 48 []) (u : gw_St) (t0 : Nat) (x1 : Int32) (x2 : Int32) (o_t0 : gw_ok z t0 9) {H : Heap} {locs : List Loc} {ls : Array Slot} (hW : gw_Wx D cA hs z s u H locs) (hl : lv_has ls 3 [(0, .ref (hs t0)), (1, .int x1), (2, .int x2)]) (h : gf_Model_findSpeeds_S48 F z  rc_48 u t0 x1 x2 = some r0) : gw_Gi p l e gr_Model_findSpeeds s m args below meth c D cA hs z r0 H locs ls 48 [] := by
  obtain ⟨hx, hb, hml, hown, hts, hK⟩ := id C
  unfold gf_Model_findSpeeds_S48 at h
  refine lv_iload_n hx hb gd_Model_findSpeeds_48 rfl (lv_at hl 2 rfl) ?_
  refine lv_bipush (v := 70) hx hb gd_Model_findSpeeds_49 (by decide) ?_
  refine lv_icmp_ge (tgt := 66) hx hb gd_Model_findSpeeds_51 (by decide) (fun c43 => ?_) (fun c43 => ?_)
  · have h := gf_t c43 h
    refine lv_iconst (v := 0) hx hb gd_Model_findSpeeds_66 (by decide) ?_
    refine lv_istore_n (lv' := [(2, .int 0), (0, .ref (hs t0)), (1, .int x1)]) hx hb gd_Model_findSpeeds_67 rfl hl (by decide) rfl (fun ls hl => ?_)
    exact gx_Model_findSpeeds_L68 F C hr hk  F u t0 0 _ _ _ o_t0 hW (lv_sub hl [1, 0] rfl) h
  · have h := gf_f c43 h
    refine lv_aload_n hx hb gd_Model_findSpeeds_54 rfl (lv_at hl 0 rfl) ?_
    refine lv_iload_n hx hb gd_Model_findSpeeds_55 rfl (lv_at hl 2 rfl) ?_
    refine lv_iload_n hx hb gd_Model_findSpeeds_56 rfl (lv_at hl 1 rfl) ?_
    obtain ⟨u44, d45, h⟩ := gf_bd_ok h
    refine gw_callVv (K := R_Model) (As := [.int x2, .int x1]) (rest := []) C hW (fun _ h => Or.inr h) hl.1 gm_Model_speedsWith (gc_Model_speedsWith l F o_t0 d45 _) gk_612 gk_613 gk_614 o_t0 (by decide) rfl rfl rfl ⟨Nat.le_of_ble_eq_true rfl, Nat.le_of_ble_eq_true rfl⟩ ⟨Nat.zero_le _, Nat.zero_le _⟩ rfl rfl (Nat.le_of_ble_eq_true rfl) gd_Model_findSpeeds_57 (fun H locs hW => ?_)
    obtain ⟨a46, e47⟩ : ∃ y : Int32, y = x2 + 1 := ⟨_, rfl⟩
    have h := gf_nm_ok e47 h
    refine lv_iinc (v := a46) (lv' := [(2, .int a46), (0, .ref (hs t0)), (1, .int x1)]) hx hb gd_Model_findSpeeds_60 hl (k := 2) rfl (by rw [e47]; rfl) (by decide) rfl (fun ls hl => ?_)
    refine lv_goto (tgt := 48) hx hb gd_Model_findSpeeds_63 (by decide) ?_
    exact k_48 u44 t0 x1 a46 _ _ _ o_t0 hW (lv_sub hl [1, 2, 0] rfl) h
set_option maxHeartbeats 4000000 in
set_option maxRecDepth 20000 in
theorem gx_Model_findSpeeds_L48 {p : Program} {l : Launch} {e : Env} {s : State} {m : MethodId} {args : Array Value} {below : List Frame} {meth : Method} {c : Code} {D : va_G} {cA : Nat → ClassId} {hs : Nat → Nat} {z : gw_Sh} (F : Nat) {r0 : (Int32 × gw_St)} (C : gw_Cx p s m args c gb_Model_findSpeeds 3 R_Model D cA) (hr : meth.sig.returnType = (some .boolean)) (hk : meth.locks = false) : ∀ (n : Nat), ∀ (u : gw_St) (t0 : Nat) (x1 : Int32) (x2 : Int32) (H : Heap) (locs : List Loc) (ls : Array Slot), gw_ok z t0 9 → gw_Wx D cA hs z s u H locs → lv_has ls 3 [(0, .ref (hs t0)), (1, .int x1), (2, .int x2)] → gf_Model_findSpeeds_L48 F z  n u t0 x1 x2 = some r0 → gw_Gi p l e gr_Model_findSpeeds s m args below meth c D cA hs z r0 H locs ls 48 [] := by
  intro n
  induction n with
  | zero =>
    intro u t0 x1 x2 H locs ls o_t0 hW hl h
    cases h
  | succ n ih =>
    intro u t0 x1 x2 H locs ls o_t0 hW hl h
    exact gx_Model_findSpeeds_S48 F C hr hk  ih u t0 x1 x2 o_t0 hW hl h

set_option maxHeartbeats 4000000 in
set_option maxRecDepth 20000 in
theorem gx_Model_findSpeeds_S25 {p : Program} {l : Launch} {e : Env} {s : State} {m : MethodId} {args : Array Value} {below : List Frame} {meth : Method} {c : Code} {D : va_G} {cA : Nat → ClassId} {hs : Nat → Nat} {z : gw_Sh} (F : Nat) {r0 : (Int32 × gw_St)} (C : gw_Cx p s m args c gb_Model_findSpeeds 3 R_Model D cA) (hr : meth.sig.returnType = (some .boolean)) (hk : meth.locks = false) {rc_25 : gw_St → Nat → Int32 → Int32 → Option (Int32 × gw_St)} (k_25 : ∀ (u : gw_St) (t0 : Nat) (x1 : Int32) (x2 : Int32) (H : Heap) (locs : List Loc) (ls : Array Slot), gw_ok z t0 9 → gw_Wx D cA hs z s u H locs → lv_has ls 3 [(0, .ref (hs t0)), (1, .int x1), (2, .int x2)] → rc_25 u t0 x1 x2 = some r0 → gw_Gi p l e gr_Model_findSpeeds s m args below meth c D cA hs z r0 H locs ls 25 []) (u : gw_St) (t0 : Nat) (x1 : Int32) (x2 : Int32) (o_t0 : gw_ok z t0 9) {H : Heap} {locs : List Loc} {ls : Array Slot} (hW : gw_Wx D cA hs z s u H locs) (hl : lv_has ls 3 [(0, .ref (hs t0)), (1, .int x1), (2, .int x2)]) (h : gf_Model_findSpeeds_S25 F z  rc_25 u t0 x1 x2 = some r0) : gw_Gi p l e gr_Model_findSpeeds s m args below meth c D cA hs z r0 H locs ls 25 [] := by
  obtain ⟨hx, hb, hml, hown, hts, hK⟩ := id C
  unfold gf_Model_findSpeeds_S25 at h
  refine lv_iload_n hx hb gd_Model_findSpeeds_25 rfl (lv_at hl 2 rfl) ?_
  refine lv_aload_n hx hb gd_Model_findSpeeds_26 rfl (lv_at hl 0 rfl) ?_
  refine gw_geti (k := 18) (ref := R_Model) C hW o_t0 (by decide) rfl gi_Model rfl (by decide) rfl rfl gk_461 gd_Model_findSpeeds_27 ?_
  refine lv_icmp_ge (tgt := 46) hx hb gd_Model_findSpeeds_30 (by decide) (fun c48 => ?_) (fun c48 => ?_)
  · have h := gf_t c48 h
    refine lv_iconst (v := 0) hx hb gd_Model_findSpeeds_46 (by decide) ?_
    refine lv_istore_n (lv' := [(2, .int 0), (0, .ref (hs t0)), (1, .int x1)]) hx hb gd_Model_findSpeeds_47 rfl hl (by decide) rfl (fun ls hl => ?_)
    exact gx_Model_findSpeeds_L48 F C hr hk  F u t0 x1 0 _ _ _ o_t0 hW (lv_sub hl [1, 2, 0] rfl) h
  · have h := gf_f c48 h
    refine lv_aload_n hx hb gd_Model_findSpeeds_33 rfl (lv_at hl 0 rfl) ?_
    obtain ⟨q49, e50, h⟩ := gf_nn_ok h
    refine gw_getr (k := 46) (ty := 12) (ref := R_Model) C hW o_t0 (by decide) rfl gi_Model rfl (by decide) rfl rfl gk_522 gd_Model_findSpeeds_34 e50 ?_
    have o_q49 := hW.ref (d := 12) o_t0 e50 rfl
    refine lv_iload_n hx hb gd_Model_findSpeeds_37 rfl (lv_at hl 2 rfl) ?_
    refine lv_iconst (v := 0) hx hb gd_Model_findSpeeds_38 (by decide) ?_
    obtain ⟨g51, h⟩ := gf_if_ok h
    refine gw_zast C hW o_q49 g51 gd_Model_findSpeeds_39 (fun u52 H locs e53 hW => ?_)
    have h := gf_nm_ok e53 h
    obtain ⟨a54, e55⟩ : ∃ y : Int32, y = x2 + 1 := ⟨_, rfl⟩
    have h := gf_nm_ok e55 h
    refine lv_iinc (v := a54) (lv' := [(2, .int a54), (0, .ref (hs t0)), (1, .int x1)]) hx hb gd_Model_findSpeeds_40 hl (k := 2) rfl (by rw [e55]; rfl) (by decide) rfl (fun ls hl => ?_)
    refine lv_goto (tgt := 25) hx hb gd_Model_findSpeeds_43 (by decide) ?_
    exact k_25 u52 t0 x1 a54 _ _ _ o_t0 hW (lv_sub hl [1, 2, 0] rfl) h
set_option maxHeartbeats 4000000 in
set_option maxRecDepth 20000 in
theorem gx_Model_findSpeeds_L25 {p : Program} {l : Launch} {e : Env} {s : State} {m : MethodId} {args : Array Value} {below : List Frame} {meth : Method} {c : Code} {D : va_G} {cA : Nat → ClassId} {hs : Nat → Nat} {z : gw_Sh} (F : Nat) {r0 : (Int32 × gw_St)} (C : gw_Cx p s m args c gb_Model_findSpeeds 3 R_Model D cA) (hr : meth.sig.returnType = (some .boolean)) (hk : meth.locks = false) : ∀ (n : Nat), ∀ (u : gw_St) (t0 : Nat) (x1 : Int32) (x2 : Int32) (H : Heap) (locs : List Loc) (ls : Array Slot), gw_ok z t0 9 → gw_Wx D cA hs z s u H locs → lv_has ls 3 [(0, .ref (hs t0)), (1, .int x1), (2, .int x2)] → gf_Model_findSpeeds_L25 F z  n u t0 x1 x2 = some r0 → gw_Gi p l e gr_Model_findSpeeds s m args below meth c D cA hs z r0 H locs ls 25 [] := by
  intro n
  induction n with
  | zero =>
    intro u t0 x1 x2 H locs ls o_t0 hW hl h
    cases h
  | succ n ih =>
    intro u t0 x1 x2 H locs ls o_t0 hW hl h
    exact gx_Model_findSpeeds_S25 F C hr hk  ih u t0 x1 x2 o_t0 hW hl h

set_option maxHeartbeats 4000000 in
set_option maxRecDepth 20000 in
theorem gx_Model_findSpeeds_b22 {p : Program} {l : Launch} {e : Env} {s : State} {m : MethodId} {args : Array Value} {below : List Frame} {meth : Method} {c : Code} {D : va_G} {cA : Nat → ClassId} {hs : Nat → Nat} {z : gw_Sh} (F : Nat) {r0 : (Int32 × gw_St)} (C : gw_Cx p s m args c gb_Model_findSpeeds 3 R_Model D cA) (hr : meth.sig.returnType = (some .boolean)) (hk : meth.locks = false) (u : gw_St) (t0 : Nat) (sx0 : Int32) (o_t0 : gw_ok z t0 9) {H : Heap} {locs : List Loc} {ls : Array Slot} (hW : gw_Wx D cA hs z s u H locs) (hl : lv_has ls 3 [(0, .ref (hs t0))]) (h : gf_Model_findSpeeds_b22 F z   u t0 sx0 = some r0) : gw_Gi p l e gr_Model_findSpeeds s m args below meth c D cA hs z r0 H locs ls 22 [.int sx0] := by
  obtain ⟨hx, hb, hml, hown, hts, hK⟩ := id C
  unfold gf_Model_findSpeeds_b22 at h
  refine lv_istore_n (lv' := [(1, .int sx0), (0, .ref (hs t0))]) hx hb gd_Model_findSpeeds_22 rfl hl (by decide) rfl (fun ls hl => ?_)
  refine lv_iconst (v := 0) hx hb gd_Model_findSpeeds_23 (by decide) ?_
  refine lv_istore_n (lv' := [(2, .int 0), (1, .int sx0), (0, .ref (hs t0))]) hx hb gd_Model_findSpeeds_24 rfl hl (by decide) rfl (fun ls hl => ?_)
  exact gx_Model_findSpeeds_L25 F C hr hk  F u t0 sx0 0 _ _ _ o_t0 hW (lv_sub hl [2, 1, 0] rfl) h

set_option maxHeartbeats 4000000 in
set_option maxRecDepth 20000 in
theorem gx_Model_findSpeeds_b0 {p : Program} {l : Launch} {e : Env} {s : State} {m : MethodId} {args : Array Value} {below : List Frame} {meth : Method} {c : Code} {D : va_G} {cA : Nat → ClassId} {hs : Nat → Nat} {z : gw_Sh} (F : Nat) {r0 : (Int32 × gw_St)} (C : gw_Cx p s m args c gb_Model_findSpeeds 3 R_Model D cA) (hr : meth.sig.returnType = (some .boolean)) (hk : meth.locks = false) (u : gw_St) (t0 : Nat) (o_t0 : gw_ok z t0 9) {H : Heap} {locs : List Loc} {ls : Array Slot} (hW : gw_Wx D cA hs z s u H locs) (hl : lv_has ls 3 [(0, .ref (hs t0))]) (h : gf_Model_findSpeeds_b0 F z   u t0 = some r0) : gw_Gi p l e gr_Model_findSpeeds s m args below meth c D cA hs z r0 H locs ls 0 [] := by
  obtain ⟨hx, hb, hml, hown, hts, hK⟩ := id C
  unfold gf_Model_findSpeeds_b0 at h
  refine lv_aload_n hx hb gd_Model_findSpeeds_0 rfl (lv_at hl 0 rfl) ?_
  refine gw_geti (k := 19) (ref := R_Model) C hW o_t0 (by decide) rfl gi_Model rfl (by decide) rfl rfl gk_466 gd_Model_findSpeeds_1 ?_
  refine lv_if_ne (tgt := 11) hx hb gd_Model_findSpeeds_4 (by decide) (fun c56 => ?_) (fun c56 => ?_)
  · have h := gf_f c56 h
    refine lv_aload_n hx hb gd_Model_findSpeeds_11 rfl (lv_at hl 0 rfl) ?_
    obtain ⟨q57, e58, h⟩ := gf_nn_ok h
    refine gw_getr (k := 44) (ty := 10) (ref := R_Model) C hW o_t0 (by decide) rfl gi_Model rfl (by decide) rfl rfl gk_506 gd_Model_findSpeeds_12 e58 ?_
    have o_q57 := hW.ref (d := 10) o_t0 e58 rfl
    refine lv_aload_n hx hb gd_Model_findSpeeds_15 rfl (lv_at hl 0 rfl) ?_
    refine gw_geti (k := 19) (ref := R_Model) C hW o_t0 (by decide) rfl gi_Model rfl (by decide) rfl rfl gk_466 gd_Model_findSpeeds_16 ?_
    refine lv_iconst (v := 1) hx hb gd_Model_findSpeeds_19 (by decide) ?_
    refine lv_isub hx hb gd_Model_findSpeeds_20 ?_
    obtain ⟨g59, h⟩ := gf_if_ok h
    refine gw_iald C hW o_q57 g59 gd_Model_findSpeeds_21 ?_
    exact gx_Model_findSpeeds_b22 F C hr hk  u t0 (u.1 q57 (((u.1 t0 19) - (1 : Int32))).toNatClampNeg) o_t0 hW (lv_sub hl [0] rfl) h
  · have h := gf_t c56 h
    refine lv_iconst (v := 1) hx hb gd_Model_findSpeeds_7 (by decide) ?_
    refine lv_goto (tgt := 22) hx hb gd_Model_findSpeeds_8 (by decide) ?_
    exact gx_Model_findSpeeds_b22 F C hr hk  u t0 1 o_t0 hW (lv_sub hl [0] rfl) h

set_option maxRecDepth 20000 in
theorem gc_Model_findSpeeds (l : Launch) {D : va_G} {cA : Nat → ClassId} {hs : Nat → Nat} {z : gw_Sh} (F : Nat) {u : gw_St} {r0 : (Int32 × gw_St)} {t0 : Nat} (o_t0 : gw_ok z t0 9) (h : gf_Model_findSpeeds F z u t0 = some r0) (sz : Nat) : gw_Mi l gy_Model_findSpeeds gb_Model_findSpeeds 3 (some .boolean) gr_Model_findSpeeds [.ref (hs t0)] D cA hs z u sz r0 := by
  refine gw_enter (by decide) (Nat.le_of_ble_eq_true rfl) ?_
  intro p e s m below meth c ls hsz C hW hr hk _ hl
  subst hsz
  exact gx_Model_findSpeeds_b0 F C hr hk u t0 o_t0 hW (lv_sub hl [0] rfl) h
-- GearDeskModel.solve()I
theorem gk_616 : Cond.fieldLink R_Model 52 R_Model "overs" "[I" ∈ gt_T := gt_m6 (List.mem_of_getElem? (i := 82) rfl) rfl
theorem gk_617 : Cond.fieldLink R_Model 55 R_Model "unders" "[I" ∈ gt_T := gt_m6 (List.mem_of_getElem? (i := 83) rfl) rfl
theorem gk_618 : Cond.fieldLink R_Model 49 R_Model "signs" "[I" ∈ gt_T := gt_m6 (List.mem_of_getElem? (i := 81) rfl) rfl
theorem gk_619 : Cond.methodLink R_Model 330 gy_Model_clashing ∈ gt_T := gt_m7 (List.mem_of_getElem? (i := 85) rfl) rfl
theorem gk_620 : Cond.instanceMethod gy_Model_clashing ∈ gt_T := gt_m7 (List.mem_of_getElem? (i := 87) rfl) rfl
theorem gk_621 : Cond.selects R_Model gy_Model_clashing gy_Model_clashing ∈ gt_T := gt_p3 (List.mem_of_getElem? (i := 13) rfl) rfl
theorem gk_622 : Cond.methodLink R_Model 334 gy_Model_findSpeeds ∈ gt_T := gt_m7 (List.mem_of_getElem? (i := 121) rfl) rfl
theorem gk_623 : Cond.instanceMethod gy_Model_findSpeeds ∈ gt_T := gt_m7 (List.mem_of_getElem? (i := 123) rfl) rfl
theorem gk_624 : Cond.selects R_Model gy_Model_findSpeeds gy_Model_findSpeeds ∈ gt_T := gt_p4 (List.mem_of_getElem? (i := 5) rfl) rfl
def gy_Model_solve : MethodName := ⟨R_Model, "solve", "()I"⟩
abbrev gb_Model_solve : ByteArray := prog_11_method_66_code
theorem gk_625 : Cond.code gy_Model_solve gb_Model_solve 4 (some .int) ∈ gt_T := gt_m7 (List.mem_of_getElem? (i := 84) rfl) rfl
def gr_Model_solve : Room := gw_rm 6 191
theorem gm_Model_solve : gw_Mth gy_Model_solve gb_Model_solve 4 (some .int) 0 := ⟨gk_625, gk_377, ⟨by decide +kernel, by decide +kernel⟩, by decide +kernel⟩
theorem gd_Model_solve_0 : decode gb_Model_solve 0 = .ok (.aload_n 0, 1) := by decide +kernel
theorem gd_Model_solve_1 : decode gb_Model_solve 1 = .ok (.iconst 0, 1) := by decide +kernel
theorem gd_Model_solve_2 : decode gb_Model_solve 2 = .ok (.putfield 112, 3) := by decide +kernel
theorem gd_Model_solve_5 : decode gb_Model_solve 5 = .ok (.aload_n 0, 1) := by decide +kernel
theorem gd_Model_solve_6 : decode gb_Model_solve 6 = .ok (.getfield 20, 3) := by decide +kernel
theorem gd_Model_solve_9 : decode gb_Model_solve 9 = .ok (.ifCond .ge 9, 3) := by decide +kernel
theorem gd_Model_solve_12 : decode gb_Model_solve 12 = .ok (.aload_n 0, 1) := by decide +kernel
theorem gd_Model_solve_13 : decode gb_Model_solve 13 = .ok (.iconst 1, 1) := by decide +kernel
theorem gd_Model_solve_14 : decode gb_Model_solve 14 = .ok (.invokevirtual 123, 3) := by decide +kernel
theorem gd_Model_solve_17 : decode gb_Model_solve 17 = .ok (.ireturn, 1) := by decide +kernel
theorem gd_Model_solve_18 : decode gb_Model_solve 18 = .ok (.aload_n 0, 1) := by decide +kernel
theorem gd_Model_solve_19 : decode gb_Model_solve 19 = .ok (.invokevirtual 330, 3) := by decide +kernel
theorem gd_Model_solve_22 : decode gb_Model_solve 22 = .ok (.istore_n 1, 1) := by decide +kernel
theorem gd_Model_solve_23 : decode gb_Model_solve 23 = .ok (.iload_n 1, 1) := by decide +kernel
theorem gd_Model_solve_24 : decode gb_Model_solve 24 = .ok (.ifCond .lt 65, 3) := by decide +kernel
theorem gd_Model_solve_27 : decode gb_Model_solve 27 = .ok (.aload_n 0, 1) := by decide +kernel
theorem gd_Model_solve_28 : decode gb_Model_solve 28 = .ok (.getfield 30, 3) := by decide +kernel
theorem gd_Model_solve_31 : decode gb_Model_solve 31 = .ok (.iload_n 1, 1) := by decide +kernel
theorem gd_Model_solve_32 : decode gb_Model_solve 32 = .ok (.iaload, 1) := by decide +kernel
theorem gd_Model_solve_33 : decode gb_Model_solve 33 = .ok (.aload_n 0, 1) := by decide +kernel
theorem gd_Model_solve_34 : decode gb_Model_solve 34 = .ok (.getfield 33, 3) := by decide +kernel
theorem gd_Model_solve_37 : decode gb_Model_solve 37 = .ok (.iload_n 1, 1) := by decide +kernel
theorem gd_Model_solve_38 : decode gb_Model_solve 38 = .ok (.iaload, 1) := by decide +kernel
theorem gd_Model_solve_39 : decode gb_Model_solve 39 = .ok (.if_icmp .ge 12, 3) := by decide +kernel
theorem gd_Model_solve_42 : decode gb_Model_solve 42 = .ok (.aload_n 0, 1) := by decide +kernel
theorem gd_Model_solve_43 : decode gb_Model_solve 43 = .ok (.getfield 30, 3) := by decide +kernel
theorem gd_Model_solve_46 : decode gb_Model_solve 46 = .ok (.iload_n 1, 1) := by decide +kernel
theorem gd_Model_solve_47 : decode gb_Model_solve 47 = .ok (.iaload, 1) := by decide +kernel
theorem gd_Model_solve_48 : decode gb_Model_solve 48 = .ok (.goto 9, 3) := by decide +kernel
theorem gd_Model_solve_51 : decode gb_Model_solve 51 = .ok (.aload_n 0, 1) := by decide +kernel
theorem gd_Model_solve_52 : decode gb_Model_solve 52 = .ok (.getfield 33, 3) := by decide +kernel
theorem gd_Model_solve_55 : decode gb_Model_solve 55 = .ok (.iload_n 1, 1) := by decide +kernel
theorem gd_Model_solve_56 : decode gb_Model_solve 56 = .ok (.iaload, 1) := by decide +kernel
theorem gd_Model_solve_57 : decode gb_Model_solve 57 = .ok (.istore_n 2, 1) := by decide +kernel
theorem gd_Model_solve_58 : decode gb_Model_solve 58 = .ok (.aload_n 0, 1) := by decide +kernel
theorem gd_Model_solve_59 : decode gb_Model_solve 59 = .ok (.getfield 27, 3) := by decide +kernel
theorem gd_Model_solve_62 : decode gb_Model_solve 62 = .ok (.iload_n 1, 1) := by decide +kernel
theorem gd_Model_solve_63 : decode gb_Model_solve 63 = .ok (.iaload, 1) := by decide +kernel
theorem gd_Model_solve_64 : decode gb_Model_solve 64 = .ok (.iconst 3, 1) := by decide +kernel
theorem gd_Model_solve_65 : decode gb_Model_solve 65 = .ok (.if_icmp .ne 22, 3) := by decide +kernel
theorem gd_Model_solve_68 : decode gb_Model_solve 68 = .ok (.aload_n 0, 1) := by decide +kernel
theorem gd_Model_solve_69 : decode gb_Model_solve 69 = .ok (.getfield 36, 3) := by decide +kernel
theorem gd_Model_solve_72 : decode gb_Model_solve 72 = .ok (.iload_n 1, 1) := by decide +kernel
theorem gd_Model_solve_73 : decode gb_Model_solve 73 = .ok (.iaload, 1) := by decide +kernel
theorem gd_Model_solve_74 : decode gb_Model_solve 74 = .ok (.iload_n 2, 1) := by decide +kernel
theorem gd_Model_solve_75 : decode gb_Model_solve 75 = .ok (.if_icmp .ge 12, 3) := by decide +kernel
theorem gd_Model_solve_78 : decode gb_Model_solve 78 = .ok (.aload_n 0, 1) := by decide +kernel
theorem gd_Model_solve_79 : decode gb_Model_solve 79 = .ok (.getfield 36, 3) := by decide +kernel
theorem gd_Model_solve_82 : decode gb_Model_solve 82 = .ok (.iload_n 1, 1) := by decide +kernel
theorem gd_Model_solve_83 : decode gb_Model_solve 83 = .ok (.iaload, 1) := by decide +kernel
theorem gd_Model_solve_84 : decode gb_Model_solve 84 = .ok (.goto 4, 3) := by decide +kernel
theorem gd_Model_solve_87 : decode gb_Model_solve 87 = .ok (.iload_n 2, 1) := by decide +kernel
theorem gd_Model_solve_88 : decode gb_Model_solve 88 = .ok (.ireturn, 1) := by decide +kernel
theorem gd_Model_solve_89 : decode gb_Model_solve 89 = .ok (.aload_n 0, 1) := by decide +kernel
theorem gd_Model_solve_90 : decode gb_Model_solve 90 = .ok (.invokevirtual 334, 3) := by decide +kernel
theorem gd_Model_solve_93 : decode gb_Model_solve 93 = .ok (.ifCond .ne 9, 3) := by decide +kernel
theorem gd_Model_solve_96 : decode gb_Model_solve 96 = .ok (.aload_n 0, 1) := by decide +kernel
theorem gd_Model_solve_97 : decode gb_Model_solve 97 = .ok (.iconst 2, 1) := by decide +kernel
theorem gd_Model_solve_98 : decode gb_Model_solve 98 = .ok (.invokevirtual 123, 3) := by decide +kernel
theorem gd_Model_solve_101 : decode gb_Model_solve 101 = .ok (.ireturn, 1) := by decide +kernel
theorem gd_Model_solve_102 : decode gb_Model_solve 102 = .ok (.iconst 0, 1) := by decide +kernel
theorem gd_Model_solve_103 : decode gb_Model_solve 103 = .ok (.istore_n 2, 1) := by decide +kernel
theorem gd_Model_solve_104 : decode gb_Model_solve 104 = .ok (.iload_n 2, 1) := by decide +kernel
theorem gd_Model_solve_105 : decode gb_Model_solve 105 = .ok (.aload_n 0, 1) := by decide +kernel
theorem gd_Model_solve_106 : decode gb_Model_solve 106 = .ok (.getfield 217, 3) := by decide +kernel
theorem gd_Model_solve_109 : decode gb_Model_solve 109 = .ok (.if_icmp .ge 91, 3) := by decide +kernel
theorem gd_Model_solve_112 : decode gb_Model_solve 112 = .ok (.aload_n 0, 1) := by decide +kernel
theorem gd_Model_solve_113 : decode gb_Model_solve 113 = .ok (.getfield 45, 3) := by decide +kernel
theorem gd_Model_solve_116 : decode gb_Model_solve 116 = .ok (.iload_n 2, 1) := by decide +kernel
theorem gd_Model_solve_117 : decode gb_Model_solve 117 = .ok (.aload_n 0, 1) := by decide +kernel
theorem gd_Model_solve_118 : decode gb_Model_solve 118 = .ok (.getfield 58, 3) := by decide +kernel
theorem gd_Model_solve_121 : decode gb_Model_solve 121 = .ok (.iload_n 2, 1) := by decide +kernel
theorem gd_Model_solve_122 : decode gb_Model_solve 122 = .ok (.baload, 1) := by decide +kernel
theorem gd_Model_solve_123 : decode gb_Model_solve 123 = .ok (.bastore, 1) := by decide +kernel
theorem gd_Model_solve_124 : decode gb_Model_solve 124 = .ok (.aload_n 0, 1) := by decide +kernel
theorem gd_Model_solve_125 : decode gb_Model_solve 125 = .ok (.getfield 49, 3) := by decide +kernel
theorem gd_Model_solve_128 : decode gb_Model_solve 128 = .ok (.iload_n 2, 1) := by decide +kernel
theorem gd_Model_solve_129 : decode gb_Model_solve 129 = .ok (.aload_n 0, 1) := by decide +kernel
theorem gd_Model_solve_130 : decode gb_Model_solve 130 = .ok (.getfield 61, 3) := by decide +kernel
theorem gd_Model_solve_133 : decode gb_Model_solve 133 = .ok (.iload_n 2, 1) := by decide +kernel
theorem gd_Model_solve_134 : decode gb_Model_solve 134 = .ok (.iaload, 1) := by decide +kernel
theorem gd_Model_solve_135 : decode gb_Model_solve 135 = .ok (.iastore, 1) := by decide +kernel
theorem gd_Model_solve_136 : decode gb_Model_solve 136 = .ok (.iconst 0, 1) := by decide +kernel
theorem gd_Model_solve_137 : decode gb_Model_solve 137 = .ok (.istore_n 3, 1) := by decide +kernel
theorem gd_Model_solve_138 : decode gb_Model_solve 138 = .ok (.iload_n 3, 1) := by decide +kernel
theorem gd_Model_solve_139 : decode gb_Model_solve 139 = .ok (.bipush 16, 2) := by decide +kernel
theorem gd_Model_solve_141 : decode gb_Model_solve 141 = .ok (.if_icmp .ge 53, 3) := by decide +kernel
theorem gd_Model_solve_144 : decode gb_Model_solve 144 = .ok (.aload_n 0, 1) := by decide +kernel
theorem gd_Model_solve_145 : decode gb_Model_solve 145 = .ok (.getfield 52, 3) := by decide +kernel
theorem gd_Model_solve_148 : decode gb_Model_solve 148 = .ok (.bipush 16, 2) := by decide +kernel
theorem gd_Model_solve_150 : decode gb_Model_solve 150 = .ok (.iload_n 2, 1) := by decide +kernel
theorem gd_Model_solve_151 : decode gb_Model_solve 151 = .ok (.imul, 1) := by decide +kernel
theorem gd_Model_solve_152 : decode gb_Model_solve 152 = .ok (.iload_n 3, 1) := by decide +kernel
theorem gd_Model_solve_153 : decode gb_Model_solve 153 = .ok (.iadd, 1) := by decide +kernel
theorem gd_Model_solve_154 : decode gb_Model_solve 154 = .ok (.aload_n 0, 1) := by decide +kernel
theorem gd_Model_solve_155 : decode gb_Model_solve 155 = .ok (.getfield 64, 3) := by decide +kernel
theorem gd_Model_solve_158 : decode gb_Model_solve 158 = .ok (.bipush 16, 2) := by decide +kernel
theorem gd_Model_solve_160 : decode gb_Model_solve 160 = .ok (.iload_n 2, 1) := by decide +kernel
theorem gd_Model_solve_161 : decode gb_Model_solve 161 = .ok (.imul, 1) := by decide +kernel
theorem gd_Model_solve_162 : decode gb_Model_solve 162 = .ok (.iload_n 3, 1) := by decide +kernel
theorem gd_Model_solve_163 : decode gb_Model_solve 163 = .ok (.iadd, 1) := by decide +kernel
theorem gd_Model_solve_164 : decode gb_Model_solve 164 = .ok (.iaload, 1) := by decide +kernel
theorem gd_Model_solve_165 : decode gb_Model_solve 165 = .ok (.iastore, 1) := by decide +kernel
theorem gd_Model_solve_166 : decode gb_Model_solve 166 = .ok (.aload_n 0, 1) := by decide +kernel
theorem gd_Model_solve_167 : decode gb_Model_solve 167 = .ok (.getfield 55, 3) := by decide +kernel
theorem gd_Model_solve_170 : decode gb_Model_solve 170 = .ok (.bipush 16, 2) := by decide +kernel
theorem gd_Model_solve_172 : decode gb_Model_solve 172 = .ok (.iload_n 2, 1) := by decide +kernel
theorem gd_Model_solve_173 : decode gb_Model_solve 173 = .ok (.imul, 1) := by decide +kernel
theorem gd_Model_solve_174 : decode gb_Model_solve 174 = .ok (.iload_n 3, 1) := by decide +kernel
theorem gd_Model_solve_175 : decode gb_Model_solve 175 = .ok (.iadd, 1) := by decide +kernel
theorem gd_Model_solve_176 : decode gb_Model_solve 176 = .ok (.aload_n 0, 1) := by decide +kernel
theorem gd_Model_solve_177 : decode gb_Model_solve 177 = .ok (.getfield 67, 3) := by decide +kernel
theorem gd_Model_solve_180 : decode gb_Model_solve 180 = .ok (.bipush 16, 2) := by decide +kernel
theorem gd_Model_solve_182 : decode gb_Model_solve 182 = .ok (.iload_n 2, 1) := by decide +kernel
theorem gd_Model_solve_183 : decode gb_Model_solve 183 = .ok (.imul, 1) := by decide +kernel
theorem gd_Model_solve_184 : decode gb_Model_solve 184 = .ok (.iload_n 3, 1) := by decide +kernel
theorem gd_Model_solve_185 : decode gb_Model_solve 185 = .ok (.iadd, 1) := by decide +kernel
theorem gd_Model_solve_186 : decode gb_Model_solve 186 = .ok (.iaload, 1) := by decide +kernel
theorem gd_Model_solve_187 : decode gb_Model_solve 187 = .ok (.iastore, 1) := by decide +kernel
theorem gd_Model_solve_188 : decode gb_Model_solve 188 = .ok (.iinc 3 1, 3) := by decide +kernel
theorem gd_Model_solve_191 : decode gb_Model_solve 191 = .ok (.goto (-53), 3) := by decide +kernel
theorem gd_Model_solve_194 : decode gb_Model_solve 194 = .ok (.iinc 2 1, 3) := by decide +kernel
theorem gd_Model_solve_197 : decode gb_Model_solve 197 = .ok (.goto (-93), 3) := by decide +kernel
theorem gd_Model_solve_200 : decode gb_Model_solve 200 = .ok (.iconst (-1), 1) := by decide +kernel
theorem gd_Model_solve_201 : decode gb_Model_solve 201 = .ok (.ireturn, 1) := by decide +kernel
def gf_Model_solve_b88 (F : Nat) (z : gw_Sh)  (u : gw_St) (sx0 : Int32) : Option (Int32 × gw_St) :=
  some (sx0, u)
def gf_Model_solve_b87 (F : Nat) (z : gw_Sh)  (u : gw_St) (x2 : Int32) : Option (Int32 × gw_St) :=
  gf_Model_solve_b88 F z  u x2
def gf_Model_solve_b57 (F : Nat) (z : gw_Sh)  (u : gw_St) (t0 : Nat) (x1 : Int32) (sx0 : Int32) : Option (Int32 × gw_St) :=
  gf_nn (u.2.2 t0 22) fun q1 => if (x1 < 0 ∨ z.2.2 q1 ≤ (x1).toNatClampNeg) then none else if (u.1 q1 (x1).toNatClampNeg) = (3 : Int32) then (gf_nn (u.2.2 t0 25) fun q5 => if (x1 < 0 ∨ z.2.2 q5 ≤ (x1).toNatClampNeg) then none else if sx0 ≤ (u.1 q5 (x1).toNatClampNeg) then (gf_Model_solve_b87 F z  u sx0) else (gf_nn (u.2.2 t0 25) fun q9 => if (x1 < 0 ∨ z.2.2 q9 ≤ (x1).toNatClampNeg) then none else gf_Model_solve_b88 F z  u (u.1 q9 (x1).toNatClampNeg))) else (gf_Model_solve_b87 F z  u sx0)
def gf_Model_solve_S138 (F : Nat) (z : gw_Sh) (rc_104 : gw_St → Nat → Int32 → Option (Int32 × gw_St)) (rc_138 : gw_St → Nat → Int32 → Int32 → Option (Int32 × gw_St)) (u : gw_St) (t0 : Nat) (x2 : Int32) (x3 : Int32) : Option (Int32 × gw_St) :=
  if (16 : Int32) ≤ x3 then (gf_nm (x2 + 1) fun a13 => rc_104 u t0 a13) else (gf_nn (u.2.2 t0 30) fun q15 => gf_nn (u.2.2 t0 34) fun q17 => if ((((16 : Int32) * x2) + x3) < 0 ∨ z.2.2 q17 ≤ ((((16 : Int32) * x2) + x3)).toNatClampNeg) then none else if ((((16 : Int32) * x2) + x3) < 0 ∨ z.2.2 q15 ≤ ((((16 : Int32) * x2) + x3)).toNatClampNeg) then none else gf_nm (gw_wi u q15 ((((16 : Int32) * x2) + x3)).toNatClampNeg (u.1 q17 ((((16 : Int32) * x2) + x3)).toNatClampNeg)) fun u21 => gf_nn (u21.2.2 t0 31) fun q23 => gf_nn (u21.2.2 t0 35) fun q25 => if ((((16 : Int32) * x2) + x3) < 0 ∨ z.2.2 q25 ≤ ((((16 : Int32) * x2) + x3)).toNatClampNeg) then none else if ((((16 : Int32) * x2) + x3) < 0 ∨ z.2.2 q23 ≤ ((((16 : Int32) * x2) + x3)).toNatClampNeg) then none else gf_nm (gw_wi u21 q23 ((((16 : Int32) * x2) + x3)).toNatClampNeg (u21.1 q25 ((((16 : Int32) * x2) + x3)).toNatClampNeg)) fun u29 => gf_nm (x3 + 1) fun a31 => rc_138 u29 t0 x2 a31)
def gf_Model_solve_L138 (F : Nat) (z : gw_Sh) (rc_104 : gw_St → Nat → Int32 → Option (Int32 × gw_St)) : Nat → gw_St → Nat → Int32 → Int32 → Option (Int32 × gw_St)
  | 0 => fun _ _ _ _ => none
  | n + 1 => fun u t0 x2 x3 => gf_Model_solve_S138 F z rc_104 (gf_Model_solve_L138 F z rc_104 n) u t0 x2 x3
def gf_Model_solve_S104 (F : Nat) (z : gw_Sh)  (rc_104 : gw_St → Nat → Int32 → Option (Int32 × gw_St)) (u : gw_St) (t0 : Nat) (x2 : Int32) : Option (Int32 × gw_St) :=
  if (u.1 t0 18) ≤ x2 then (some ((-1 : Int32), u)) else (gf_nn (u.2.2 t0 28) fun q34 => gf_nn (u.2.2 t0 32) fun q36 => if (x2 < 0 ∨ z.2.2 q36 ≤ (x2).toNatClampNeg) then none else if (x2 < 0 ∨ z.2.2 q34 ≤ (x2).toNatClampNeg) then none else gf_nm (gw_wi u q34 (x2).toNatClampNeg (vp_nar .boolean (u.1 q36 (x2).toNatClampNeg))) fun u40 => gf_nn (u40.2.2 t0 29) fun q42 => gf_nn (u40.2.2 t0 33) fun q44 => if (x2 < 0 ∨ z.2.2 q44 ≤ (x2).toNatClampNeg) then none else if (x2 < 0 ∨ z.2.2 q42 ≤ (x2).toNatClampNeg) then none else gf_nm (gw_wi u40 q42 (x2).toNatClampNeg (u40.1 q44 (x2).toNatClampNeg)) fun u48 => gf_Model_solve_L138 F z rc_104 F u48 t0 x2 0)
def gf_Model_solve_L104 (F : Nat) (z : gw_Sh)  : Nat → gw_St → Nat → Int32 → Option (Int32 × gw_St)
  | 0 => fun _ _ _ => none
  | n + 1 => fun u t0 x2 => gf_Model_solve_S104 F z  (gf_Model_solve_L104 F z  n) u t0 x2
def gf_Model_solve_b0 (F : Nat) (z : gw_Sh)  (u : gw_St) (t0 : Nat) : Option (Int32 × gw_St) :=
  gf_nm (gw_wi u t0 0 (0 : Int32)) fun u50 => if 0 ≤ (u50.1 t0 20) then (gf_cl (gf_Model_clashing F z u50 t0) fun a55 u53 => if a55 < 0 then (gf_cl (gf_Model_findSpeeds F z u53 t0) fun a59 u57 => if a59 = 0 then (gf_cl (gf_Model_fail F z u57 t0 (2 : Int32)) fun a63 u61 => some (a63, u61)) else (gf_Model_solve_L104 F z  F u57 t0 0)) else (gf_nn (u53.2.2 t0 23) fun q64 => if (a55 < 0 ∨ z.2.2 q64 ≤ (a55).toNatClampNeg) then none else gf_nn (u53.2.2 t0 24) fun q67 => if (a55 < 0 ∨ z.2.2 q67 ≤ (a55).toNatClampNeg) then none else if (u53.1 q67 (a55).toNatClampNeg) ≤ (u53.1 q64 (a55).toNatClampNeg) then (gf_nn (u53.2.2 t0 24) fun q71 => if (a55 < 0 ∨ z.2.2 q71 ≤ (a55).toNatClampNeg) then none else gf_Model_solve_b57 F z  u53 t0 a55 (u53.1 q71 (a55).toNatClampNeg)) else (gf_nn (u53.2.2 t0 23) fun q74 => if (a55 < 0 ∨ z.2.2 q74 ≤ (a55).toNatClampNeg) then none else gf_Model_solve_b57 F z  u53 t0 a55 (u53.1 q74 (a55).toNatClampNeg)))) else (gf_cl (gf_Model_fail F z u50 t0 (1 : Int32)) fun a79 u77 => some (a79, u77))
def gf_Model_solve (F : Nat) (z : gw_Sh) (u : gw_St) (t0 : Nat) : Option (Int32 × gw_St) := gf_Model_solve_b0 F z  u t0
set_option maxHeartbeats 4000000 in
set_option maxRecDepth 20000 in
theorem gx_Model_solve_b88 {p : Program} {l : Launch} {e : Env} {s : State} {m : MethodId} {args : Array Value} {below : List Frame} {meth : Method} {c : Code} {D : va_G} {cA : Nat → ClassId} {hs : Nat → Nat} {z : gw_Sh} (F : Nat) {r0 : (Int32 × gw_St)} (C : gw_Cx p s m args c gb_Model_solve 4 R_Model D cA) (hr : meth.sig.returnType = (some .int)) (hk : meth.locks = false) (u : gw_St) (sx0 : Int32)  {H : Heap} {locs : List Loc} {ls : Array Slot} (hW : gw_Wx D cA hs z s u H locs) (hl : lv_has ls 4 []) (h : gf_Model_solve_b88 F z   u sx0 = some r0) : gw_Gi p l e gr_Model_solve s m args below meth c D cA hs z r0 H locs ls 88 [.int sx0] := by
  obtain ⟨hx, hb, hml, hown, hts, hK⟩ := id C
  unfold gf_Model_solve_b88 at h
  obtain rfl := Option.some.inj h
  exact gw_iret C hW hr hk gd_Model_solve_88

set_option maxHeartbeats 4000000 in
set_option maxRecDepth 20000 in
theorem gx_Model_solve_b87 {p : Program} {l : Launch} {e : Env} {s : State} {m : MethodId} {args : Array Value} {below : List Frame} {meth : Method} {c : Code} {D : va_G} {cA : Nat → ClassId} {hs : Nat → Nat} {z : gw_Sh} (F : Nat) {r0 : (Int32 × gw_St)} (C : gw_Cx p s m args c gb_Model_solve 4 R_Model D cA) (hr : meth.sig.returnType = (some .int)) (hk : meth.locks = false) (u : gw_St) (x2 : Int32)  {H : Heap} {locs : List Loc} {ls : Array Slot} (hW : gw_Wx D cA hs z s u H locs) (hl : lv_has ls 4 [(2, .int x2)]) (h : gf_Model_solve_b87 F z   u x2 = some r0) : gw_Gi p l e gr_Model_solve s m args below meth c D cA hs z r0 H locs ls 87 [] := by
  obtain ⟨hx, hb, hml, hown, hts, hK⟩ := id C
  unfold gf_Model_solve_b87 at h
  refine lv_iload_n hx hb gd_Model_solve_87 rfl (lv_at hl 0 rfl) ?_
  exact gx_Model_solve_b88 F C hr hk  u x2  hW (lv_sub hl [] rfl) h

set_option maxHeartbeats 4000000 in
set_option maxRecDepth 20000 in
theorem gx_Model_solve_b57 {p : Program} {l : Launch} {e : Env} {s : State} {m : MethodId} {args : Array Value} {below : List Frame} {meth : Method} {c : Code} {D : va_G} {cA : Nat → ClassId} {hs : Nat → Nat} {z : gw_Sh} (F : Nat) {r0 : (Int32 × gw_St)} (C : gw_Cx p s m args c gb_Model_solve 4 R_Model D cA) (hr : meth.sig.returnType = (some .int)) (hk : meth.locks = false) (u : gw_St) (t0 : Nat) (x1 : Int32) (sx0 : Int32) (o_t0 : gw_ok z t0 9) {H : Heap} {locs : List Loc} {ls : Array Slot} (hW : gw_Wx D cA hs z s u H locs) (hl : lv_has ls 4 [(0, .ref (hs t0)), (1, .int x1)]) (h : gf_Model_solve_b57 F z   u t0 x1 sx0 = some r0) : gw_Gi p l e gr_Model_solve s m args below meth c D cA hs z r0 H locs ls 57 [.int sx0] := by
  obtain ⟨hx, hb, hml, hown, hts, hK⟩ := id C
  unfold gf_Model_solve_b57 at h
  refine lv_istore_n (lv' := [(2, .int sx0), (0, .ref (hs t0)), (1, .int x1)]) hx hb gd_Model_solve_57 rfl hl (by decide) rfl (fun ls hl => ?_)
  refine lv_aload_n hx hb gd_Model_solve_58 rfl (lv_at hl 1 rfl) ?_
  obtain ⟨q1, e2, h⟩ := gf_nn_ok h
  refine gw_getr (k := 22) (ty := 10) (ref := R_Model) C hW o_t0 (by decide) rfl gi_Model rfl (by decide) rfl rfl gk_467 gd_Model_solve_59 e2 ?_
  have o_q1 := hW.ref (d := 10) o_t0 e2 rfl
  refine lv_iload_n hx hb gd_Model_solve_62 rfl (lv_at hl 2 rfl) ?_
  obtain ⟨g3, h⟩ := gf_if_ok h
  refine gw_iald C hW o_q1 g3 gd_Model_solve_63 ?_
  refine lv_iconst (v := 3) hx hb gd_Model_solve_64 (by decide) ?_
  refine lv_icmp_ne (tgt := 87) hx hb gd_Model_solve_65 (by decide) (fun c4 => ?_) (fun c4 => ?_)
  · have h := gf_f c4 h
    exact gx_Model_solve_b87 F C hr hk  u sx0  hW (lv_sub hl [0] rfl) h
  · have h := gf_t c4 h
    refine lv_aload_n hx hb gd_Model_solve_68 rfl (lv_at hl 1 rfl) ?_
    obtain ⟨q5, e6, h⟩ := gf_nn_ok h
    refine gw_getr (k := 25) (ty := 10) (ref := R_Model) C hW o_t0 (by decide) rfl gi_Model rfl (by decide) rfl rfl gk_470 gd_Model_solve_69 e6 ?_
    have o_q5 := hW.ref (d := 10) o_t0 e6 rfl
    refine lv_iload_n hx hb gd_Model_solve_72 rfl (lv_at hl 2 rfl) ?_
    obtain ⟨g7, h⟩ := gf_if_ok h
    refine gw_iald C hW o_q5 g7 gd_Model_solve_73 ?_
    refine lv_iload_n hx hb gd_Model_solve_74 rfl (lv_at hl 0 rfl) ?_
    refine lv_icmp_ge (tgt := 87) hx hb gd_Model_solve_75 (by decide) (fun c8 => ?_) (fun c8 => ?_)
    · have h := gf_t c8 h
      exact gx_Model_solve_b87 F C hr hk  u sx0  hW (lv_sub hl [0] rfl) h
    · have h := gf_f c8 h
      refine lv_aload_n hx hb gd_Model_solve_78 rfl (lv_at hl 1 rfl) ?_
      obtain ⟨q9, e10, h⟩ := gf_nn_ok h
      refine gw_getr (k := 25) (ty := 10) (ref := R_Model) C hW o_t0 (by decide) rfl gi_Model rfl (by decide) rfl rfl gk_470 gd_Model_solve_79 e10 ?_
      have o_q9 := hW.ref (d := 10) o_t0 e10 rfl
      refine lv_iload_n hx hb gd_Model_solve_82 rfl (lv_at hl 2 rfl) ?_
      obtain ⟨g11, h⟩ := gf_if_ok h
      refine gw_iald C hW o_q9 g11 gd_Model_solve_83 ?_
      refine lv_goto (tgt := 88) hx hb gd_Model_solve_84 (by decide) ?_
      exact gx_Model_solve_b88 F C hr hk  u (u.1 q9 (x1).toNatClampNeg)  hW (lv_sub hl [] rfl) h

set_option maxHeartbeats 4000000 in
set_option maxRecDepth 20000 in
theorem gx_Model_solve_S138 {p : Program} {l : Launch} {e : Env} {s : State} {m : MethodId} {args : Array Value} {below : List Frame} {meth : Method} {c : Code} {D : va_G} {cA : Nat → ClassId} {hs : Nat → Nat} {z : gw_Sh} (F : Nat) {r0 : (Int32 × gw_St)} (C : gw_Cx p s m args c gb_Model_solve 4 R_Model D cA) (hr : meth.sig.returnType = (some .int)) (hk : meth.locks = false) {rc_104 : gw_St → Nat → Int32 → Option (Int32 × gw_St)} (k_104 : ∀ (u : gw_St) (t0 : Nat) (x2 : Int32) (H : Heap) (locs : List Loc) (ls : Array Slot), gw_ok z t0 9 → gw_Wx D cA hs z s u H locs → lv_has ls 4 [(0, .ref (hs t0)), (2, .int x2)] → rc_104 u t0 x2 = some r0 → gw_Gi p l e gr_Model_solve s m args below meth c D cA hs z r0 H locs ls 104 []) {rc_138 : gw_St → Nat → Int32 → Int32 → Option (Int32 × gw_St)} (k_138 : ∀ (u : gw_St) (t0 : Nat) (x2 : Int32) (x3 : Int32) (H : Heap) (locs : List Loc) (ls : Array Slot), gw_ok z t0 9 → gw_Wx D cA hs z s u H locs → lv_has ls 4 [(0, .ref (hs t0)), (2, .int x2), (3, .int x3)] → rc_138 u t0 x2 x3 = some r0 → gw_Gi p l e gr_Model_solve s m args below meth c D cA hs z r0 H locs ls 138 []) (u : gw_St) (t0 : Nat) (x2 : Int32) (x3 : Int32) (o_t0 : gw_ok z t0 9) {H : Heap} {locs : List Loc} {ls : Array Slot} (hW : gw_Wx D cA hs z s u H locs) (hl : lv_has ls 4 [(0, .ref (hs t0)), (2, .int x2), (3, .int x3)]) (h : gf_Model_solve_S138 F z rc_104 rc_138 u t0 x2 x3 = some r0) : gw_Gi p l e gr_Model_solve s m args below meth c D cA hs z r0 H locs ls 138 [] := by
  obtain ⟨hx, hb, hml, hown, hts, hK⟩ := id C
  unfold gf_Model_solve_S138 at h
  refine lv_iload_n hx hb gd_Model_solve_138 rfl (lv_at hl 2 rfl) ?_
  refine lv_bipush (v := 16) hx hb gd_Model_solve_139 (by decide) ?_
  refine lv_icmp_ge (tgt := 194) hx hb gd_Model_solve_141 (by decide) (fun c12 => ?_) (fun c12 => ?_)
  · have h := gf_t c12 h
    obtain ⟨a13, e14⟩ : ∃ y : Int32, y = x2 + 1 := ⟨_, rfl⟩
    have h := gf_nm_ok e14 h
    refine lv_iinc (v := a13) (lv' := [(2, .int a13), (0, .ref (hs t0)), (3, .int x3)]) hx hb gd_Model_solve_194 hl (k := 1) rfl (by rw [e14]; rfl) (by decide) rfl (fun ls hl => ?_)
    refine lv_goto (tgt := 104) hx hb gd_Model_solve_197 (by decide) ?_
    exact k_104 u t0 a13 _ _ _ o_t0 hW (lv_sub hl [1, 0] rfl) h
  · have h := gf_f c12 h
    refine lv_aload_n hx hb gd_Model_solve_144 rfl (lv_at hl 0 rfl) ?_
    obtain ⟨q15, e16, h⟩ := gf_nn_ok h
    refine gw_getr (k := 30) (ty := 10) (ref := R_Model) C hW o_t0 (by decide) rfl gi_Model rfl (by decide) rfl rfl gk_616 gd_Model_solve_145 e16 ?_
    have o_q15 := hW.ref (d := 10) o_t0 e16 rfl
    refine lv_bipush (v := 16) hx hb gd_Model_solve_148 (by decide) ?_
    refine lv_iload_n hx hb gd_Model_solve_150 rfl (lv_at hl 1 rfl) ?_
    refine lv_imul hx hb gd_Model_solve_151 ?_
    refine lv_iload_n hx hb gd_Model_solve_152 rfl (lv_at hl 2 rfl) ?_
    refine lv_iadd hx hb gd_Model_solve_153 ?_
    refine lv_aload_n hx hb gd_Model_solve_154 rfl (lv_at hl 0 rfl) ?_
    obtain ⟨q17, e18, h⟩ := gf_nn_ok h
    refine gw_getr (k := 34) (ty := 10) (ref := R_Model) C hW o_t0 (by decide) rfl gi_Model rfl (by decide) rfl rfl gk_607 gd_Model_solve_155 e18 ?_
    have o_q17 := hW.ref (d := 10) o_t0 e18 rfl
    refine lv_bipush (v := 16) hx hb gd_Model_solve_158 (by decide) ?_
    refine lv_iload_n hx hb gd_Model_solve_160 rfl (lv_at hl 1 rfl) ?_
    refine lv_imul hx hb gd_Model_solve_161 ?_
    refine lv_iload_n hx hb gd_Model_solve_162 rfl (lv_at hl 2 rfl) ?_
    refine lv_iadd hx hb gd_Model_solve_163 ?_
    obtain ⟨g19, h⟩ := gf_if_ok h
    refine gw_iald C hW o_q17 g19 gd_Model_solve_164 ?_
    obtain ⟨g20, h⟩ := gf_if_ok h
    refine gw_iast C hW o_q15 g20 gd_Model_solve_165 (fun u21 H locs e22 hW => ?_)
    have h := gf_nm_ok e22 h
    refine lv_aload_n hx hb gd_Model_solve_166 rfl (lv_at hl 0 rfl) ?_
    obtain ⟨q23, e24, h⟩ := gf_nn_ok h
    refine gw_getr (k := 31) (ty := 10) (ref := R_Model) C hW o_t0 (by decide) rfl gi_Model rfl (by decide) rfl rfl gk_617 gd_Model_solve_167 e24 ?_
    have o_q23 := hW.ref (d := 10) o_t0 e24 rfl
    refine lv_bipush (v := 16) hx hb gd_Model_solve_170 (by decide) ?_
    refine lv_iload_n hx hb gd_Model_solve_172 rfl (lv_at hl 1 rfl) ?_
    refine lv_imul hx hb gd_Model_solve_173 ?_
    refine lv_iload_n hx hb gd_Model_solve_174 rfl (lv_at hl 2 rfl) ?_
    refine lv_iadd hx hb gd_Model_solve_175 ?_
    refine lv_aload_n hx hb gd_Model_solve_176 rfl (lv_at hl 0 rfl) ?_
    obtain ⟨q25, e26, h⟩ := gf_nn_ok h
    refine gw_getr (k := 35) (ty := 10) (ref := R_Model) C hW o_t0 (by decide) rfl gi_Model rfl (by decide) rfl rfl gk_611 gd_Model_solve_177 e26 ?_
    have o_q25 := hW.ref (d := 10) o_t0 e26 rfl
    refine lv_bipush (v := 16) hx hb gd_Model_solve_180 (by decide) ?_
    refine lv_iload_n hx hb gd_Model_solve_182 rfl (lv_at hl 1 rfl) ?_
    refine lv_imul hx hb gd_Model_solve_183 ?_
    refine lv_iload_n hx hb gd_Model_solve_184 rfl (lv_at hl 2 rfl) ?_
    refine lv_iadd hx hb gd_Model_solve_185 ?_
    obtain ⟨g27, h⟩ := gf_if_ok h
    refine gw_iald C hW o_q25 g27 gd_Model_solve_186 ?_
    obtain ⟨g28, h⟩ := gf_if_ok h
    refine gw_iast C hW o_q23 g28 gd_Model_solve_187 (fun u29 H locs e30 hW => ?_)
    have h := gf_nm_ok e30 h
    obtain ⟨a31, e32⟩ : ∃ y : Int32, y = x3 + 1 := ⟨_, rfl⟩
    have h := gf_nm_ok e32 h
    refine lv_iinc (v := a31) (lv' := [(3, .int a31), (0, .ref (hs t0)), (2, .int x2)]) hx hb gd_Model_solve_188 hl (k := 2) rfl (by rw [e32]; rfl) (by decide) rfl (fun ls hl => ?_)
    refine lv_goto (tgt := 138) hx hb gd_Model_solve_191 (by decide) ?_
    exact k_138 u29 t0 x2 a31 _ _ _ o_t0 hW (lv_sub hl [1, 2, 0] rfl) h
set_option maxHeartbeats 4000000 in
set_option maxRecDepth 20000 in
theorem gx_Model_solve_L138 {p : Program} {l : Launch} {e : Env} {s : State} {m : MethodId} {args : Array Value} {below : List Frame} {meth : Method} {c : Code} {D : va_G} {cA : Nat → ClassId} {hs : Nat → Nat} {z : gw_Sh} (F : Nat) {r0 : (Int32 × gw_St)} (C : gw_Cx p s m args c gb_Model_solve 4 R_Model D cA) (hr : meth.sig.returnType = (some .int)) (hk : meth.locks = false) {rc_104 : gw_St → Nat → Int32 → Option (Int32 × gw_St)} (k_104 : ∀ (u : gw_St) (t0 : Nat) (x2 : Int32) (H : Heap) (locs : List Loc) (ls : Array Slot), gw_ok z t0 9 → gw_Wx D cA hs z s u H locs → lv_has ls 4 [(0, .ref (hs t0)), (2, .int x2)] → rc_104 u t0 x2 = some r0 → gw_Gi p l e gr_Model_solve s m args below meth c D cA hs z r0 H locs ls 104 []) : ∀ (n : Nat), ∀ (u : gw_St) (t0 : Nat) (x2 : Int32) (x3 : Int32) (H : Heap) (locs : List Loc) (ls : Array Slot), gw_ok z t0 9 → gw_Wx D cA hs z s u H locs → lv_has ls 4 [(0, .ref (hs t0)), (2, .int x2), (3, .int x3)] → gf_Model_solve_L138 F z rc_104 n u t0 x2 x3 = some r0 → gw_Gi p l e gr_Model_solve s m args below meth c D cA hs z r0 H locs ls 138 [] := by
  intro n
  induction n with
  | zero =>
    intro u t0 x2 x3 H locs ls o_t0 hW hl h
    cases h
  | succ n ih =>
    intro u t0 x2 x3 H locs ls o_t0 hW hl h
    exact gx_Model_solve_S138 F C hr hk k_104 ih u t0 x2 x3 o_t0 hW hl h

set_option maxHeartbeats 4000000 in
set_option maxRecDepth 20000 in
theorem gx_Model_solve_S104 {p : Program} {l : Launch} {e : Env} {s : State} {m : MethodId} {args : Array Value} {below : List Frame} {meth : Method} {c : Code} {D : va_G} {cA : Nat → ClassId} {hs : Nat → Nat} {z : gw_Sh} (F : Nat) {r0 : (Int32 × gw_St)} (C : gw_Cx p s m args c gb_Model_solve 4 R_Model D cA) (hr : meth.sig.returnType = (some .int)) (hk : meth.locks = false) {rc_104 : gw_St → Nat → Int32 → Option (Int32 × gw_St)} (k_104 : ∀ (u : gw_St) (t0 : Nat) (x2 : Int32) (H : Heap) (locs : List Loc) (ls : Array Slot), gw_ok z t0 9 → gw_Wx D cA hs z s u H locs → lv_has ls 4 [(0, .ref (hs t0)), (2, .int x2)] → rc_104 u t0 x2 = some r0 → gw_Gi p l e gr_Model_solve s m args below meth c D cA hs z r0 H locs ls 104 []) (u : gw_St) (t0 : Nat) (x2 : Int32) (o_t0 : gw_ok z t0 9) {H : Heap} {locs : List Loc} {ls : Array Slot} (hW : gw_Wx D cA hs z s u H locs) (hl : lv_has ls 4 [(0, .ref (hs t0)), (2, .int x2)]) (h : gf_Model_solve_S104 F z  rc_104 u t0 x2 = some r0) : gw_Gi p l e gr_Model_solve s m args below meth c D cA hs z r0 H locs ls 104 [] := by
  obtain ⟨hx, hb, hml, hown, hts, hK⟩ := id C
  unfold gf_Model_solve_S104 at h
  refine lv_iload_n hx hb gd_Model_solve_104 rfl (lv_at hl 1 rfl) ?_
  refine lv_aload_n hx hb gd_Model_solve_105 rfl (lv_at hl 0 rfl) ?_
  refine gw_geti (k := 18) (ref := R_Model) C hW o_t0 (by decide) rfl gi_Model rfl (by decide) rfl rfl gk_461 gd_Model_solve_106 ?_
  refine lv_icmp_ge (tgt := 200) hx hb gd_Model_solve_109 (by decide) (fun c33 => ?_) (fun c33 => ?_)
  · have h := gf_t c33 h
    refine lv_iconst (v := (-1)) hx hb gd_Model_solve_200 (by decide) ?_
    obtain rfl := Option.some.inj h
    exact gw_iret C hW hr hk gd_Model_solve_201
  · have h := gf_f c33 h
    refine lv_aload_n hx hb gd_Model_solve_112 rfl (lv_at hl 0 rfl) ?_
    obtain ⟨q34, e35, h⟩ := gf_nn_ok h
    refine gw_getr (k := 28) (ty := 12) (ref := R_Model) C hW o_t0 (by decide) rfl gi_Model rfl (by decide) rfl rfl gk_463 gd_Model_solve_113 e35 ?_
    have o_q34 := hW.ref (d := 12) o_t0 e35 rfl
    refine lv_iload_n hx hb gd_Model_solve_116 rfl (lv_at hl 1 rfl) ?_
    refine lv_aload_n hx hb gd_Model_solve_117 rfl (lv_at hl 0 rfl) ?_
    obtain ⟨q36, e37, h⟩ := gf_nn_ok h
    refine gw_getr (k := 32) (ty := 12) (ref := R_Model) C hW o_t0 (by decide) rfl gi_Model rfl (by decide) rfl rfl gk_599 gd_Model_solve_118 e37 ?_
    have o_q36 := hW.ref (d := 12) o_t0 e37 rfl
    refine lv_iload_n hx hb gd_Model_solve_121 rfl (lv_at hl 1 rfl) ?_
    obtain ⟨g38, h⟩ := gf_if_ok h
    refine gw_zald C hW o_q36 g38 gd_Model_solve_122 ?_
    obtain ⟨g39, h⟩ := gf_if_ok h
    refine gw_zast C hW o_q34 g39 gd_Model_solve_123 (fun u40 H locs e41 hW => ?_)
    have h := gf_nm_ok e41 h
    refine lv_aload_n hx hb gd_Model_solve_124 rfl (lv_at hl 0 rfl) ?_
    obtain ⟨q42, e43, h⟩ := gf_nn_ok h
    refine gw_getr (k := 29) (ty := 10) (ref := R_Model) C hW o_t0 (by decide) rfl gi_Model rfl (by decide) rfl rfl gk_618 gd_Model_solve_125 e43 ?_
    have o_q42 := hW.ref (d := 10) o_t0 e43 rfl
    refine lv_iload_n hx hb gd_Model_solve_128 rfl (lv_at hl 1 rfl) ?_
    refine lv_aload_n hx hb gd_Model_solve_129 rfl (lv_at hl 0 rfl) ?_
    obtain ⟨q44, e45, h⟩ := gf_nn_ok h
    refine gw_getr (k := 33) (ty := 10) (ref := R_Model) C hW o_t0 (by decide) rfl gi_Model rfl (by decide) rfl rfl gk_600 gd_Model_solve_130 e45 ?_
    have o_q44 := hW.ref (d := 10) o_t0 e45 rfl
    refine lv_iload_n hx hb gd_Model_solve_133 rfl (lv_at hl 1 rfl) ?_
    obtain ⟨g46, h⟩ := gf_if_ok h
    refine gw_iald C hW o_q44 g46 gd_Model_solve_134 ?_
    obtain ⟨g47, h⟩ := gf_if_ok h
    refine gw_iast C hW o_q42 g47 gd_Model_solve_135 (fun u48 H locs e49 hW => ?_)
    have h := gf_nm_ok e49 h
    refine lv_iconst (v := 0) hx hb gd_Model_solve_136 (by decide) ?_
    refine lv_istore_n (lv' := [(3, .int 0), (0, .ref (hs t0)), (2, .int x2)]) hx hb gd_Model_solve_137 rfl hl (by decide) rfl (fun ls hl => ?_)
    exact gx_Model_solve_L138 F C hr hk k_104 F u48 t0 x2 0 _ _ _ o_t0 hW (lv_sub hl [1, 2, 0] rfl) h
set_option maxHeartbeats 4000000 in
set_option maxRecDepth 20000 in
theorem gx_Model_solve_L104 {p : Program} {l : Launch} {e : Env} {s : State} {m : MethodId} {args : Array Value} {below : List Frame} {meth : Method} {c : Code} {D : va_G} {cA : Nat → ClassId} {hs : Nat → Nat} {z : gw_Sh} (F : Nat) {r0 : (Int32 × gw_St)} (C : gw_Cx p s m args c gb_Model_solve 4 R_Model D cA) (hr : meth.sig.returnType = (some .int)) (hk : meth.locks = false) : ∀ (n : Nat), ∀ (u : gw_St) (t0 : Nat) (x2 : Int32) (H : Heap) (locs : List Loc) (ls : Array Slot), gw_ok z t0 9 → gw_Wx D cA hs z s u H locs → lv_has ls 4 [(0, .ref (hs t0)), (2, .int x2)] → gf_Model_solve_L104 F z  n u t0 x2 = some r0 → gw_Gi p l e gr_Model_solve s m args below meth c D cA hs z r0 H locs ls 104 [] := by
  intro n
  induction n with
  | zero =>
    intro u t0 x2 H locs ls o_t0 hW hl h
    cases h
  | succ n ih =>
    intro u t0 x2 H locs ls o_t0 hW hl h
    exact gx_Model_solve_S104 F C hr hk  ih u t0 x2 o_t0 hW hl h

set_option maxHeartbeats 4000000 in
set_option maxRecDepth 20000 in
theorem gx_Model_solve_b0 {p : Program} {l : Launch} {e : Env} {s : State} {m : MethodId} {args : Array Value} {below : List Frame} {meth : Method} {c : Code} {D : va_G} {cA : Nat → ClassId} {hs : Nat → Nat} {z : gw_Sh} (F : Nat) {r0 : (Int32 × gw_St)} (C : gw_Cx p s m args c gb_Model_solve 4 R_Model D cA) (hr : meth.sig.returnType = (some .int)) (hk : meth.locks = false) (u : gw_St) (t0 : Nat) (o_t0 : gw_ok z t0 9) {H : Heap} {locs : List Loc} {ls : Array Slot} (hW : gw_Wx D cA hs z s u H locs) (hl : lv_has ls 4 [(0, .ref (hs t0))]) (h : gf_Model_solve_b0 F z   u t0 = some r0) : gw_Gi p l e gr_Model_solve s m args below meth c D cA hs z r0 H locs ls 0 [] := by
  obtain ⟨hx, hb, hml, hown, hts, hK⟩ := id C
  unfold gf_Model_solve_b0 at h
  refine lv_aload_n hx hb gd_Model_solve_0 rfl (lv_at hl 0 rfl) ?_
  refine lv_iconst (v := 0) hx hb gd_Model_solve_1 (by decide) ?_
  refine gw_puti (k := 0) (ref := R_Model) (fty := .int) C hW o_t0 (by decide) rfl gi_Model rfl (by decide) rfl rfl gk_376 tf_Model tf_Model_ok nm_Model rfl rfl rfl rfl gd_Model_solve_2 (fun u50 H locs e51 hW => ?_)
  have h := gf_nm_ok e51 h
  refine lv_aload_n hx hb gd_Model_solve_5 rfl (lv_at hl 0 rfl) ?_
  refine gw_geti (k := 20) (ref := R_Model) C hW o_t0 (by decide) rfl gi_Model rfl (by decide) rfl rfl gk_484 gd_Model_solve_6 ?_
  refine lv_if_ge (tgt := 18) hx hb gd_Model_solve_9 (by decide) (fun c52 => ?_) (fun c52 => ?_)
  · have h := gf_t c52 h
    refine lv_aload_n hx hb gd_Model_solve_18 rfl (lv_at hl 0 rfl) ?_
    obtain ⟨a55, u53, d54, h⟩ := gf_cl_ok h
    refine gw_callVi (K := R_Model) (As := []) (rest := []) C hW (fun _ h => Or.inr h) hl.1 gm_Model_clashing (gc_Model_clashing l F o_t0 d54 _) gk_619 gk_620 gk_621 o_t0 (by decide) rfl rfl rfl ⟨Nat.le_of_ble_eq_true rfl, Nat.le_of_ble_eq_true rfl⟩ ⟨Nat.zero_le _, Nat.zero_le _⟩ rfl rfl (Nat.le_of_ble_eq_true rfl) gd_Model_solve_19 (fun H locs hW => ?_)
    refine lv_istore_n (lv' := [(1, .int a55), (0, .ref (hs t0))]) hx hb gd_Model_solve_22 rfl hl (by decide) rfl (fun ls hl => ?_)
    refine lv_iload_n hx hb gd_Model_solve_23 rfl (lv_at hl 0 rfl) ?_
    refine lv_if_lt (tgt := 89) hx hb gd_Model_solve_24 (by decide) (fun c56 => ?_) (fun c56 => ?_)
    · have h := gf_t c56 h
      refine lv_aload_n hx hb gd_Model_solve_89 rfl (lv_at hl 1 rfl) ?_
      obtain ⟨a59, u57, d58, h⟩ := gf_cl_ok h
      refine gw_callVi (K := R_Model) (As := []) (rest := []) C hW (fun _ h => Or.inr h) hl.1 gm_Model_findSpeeds (gc_Model_findSpeeds l F o_t0 d58 _) gk_622 gk_623 gk_624 o_t0 (by decide) rfl rfl rfl ⟨Nat.le_of_ble_eq_true rfl, Nat.le_of_ble_eq_true rfl⟩ ⟨Nat.zero_le _, Nat.zero_le _⟩ rfl rfl (Nat.le_of_ble_eq_true rfl) gd_Model_solve_90 (fun H locs hW => ?_)
      refine lv_if_ne (tgt := 102) hx hb gd_Model_solve_93 (by decide) (fun c60 => ?_) (fun c60 => ?_)
      · have h := gf_f c60 h
        refine lv_iconst (v := 0) hx hb gd_Model_solve_102 (by decide) ?_
        refine lv_istore_n (lv' := [(2, .int 0), (1, .int a55), (0, .ref (hs t0))]) hx hb gd_Model_solve_103 rfl hl (by decide) rfl (fun ls hl => ?_)
        exact gx_Model_solve_L104 F C hr hk  F u57 t0 0 _ _ _ o_t0 hW (lv_sub hl [2, 0] rfl) h
      · have h := gf_t c60 h
        refine lv_aload_n hx hb gd_Model_solve_96 rfl (lv_at hl 1 rfl) ?_
        refine lv_iconst (v := 2) hx hb gd_Model_solve_97 (by decide) ?_
        obtain ⟨a63, u61, d62, h⟩ := gf_cl_ok h
        refine gw_callVi (K := R_Model) (As := [.int (2 : Int32)]) (rest := []) C hW (fun _ h => Or.inr h) hl.1 gm_Model_fail (gc_Model_fail l F o_t0 d62 _) gk_385 gk_386 gk_387 o_t0 (by decide) rfl rfl rfl ⟨Nat.le_of_ble_eq_true rfl, Nat.le_of_ble_eq_true rfl⟩ ⟨Nat.zero_le _, Nat.zero_le _⟩ rfl rfl (Nat.le_of_ble_eq_true rfl) gd_Model_solve_98 (fun H locs hW => ?_)
        obtain rfl := Option.some.inj h
        exact gw_iret C hW hr hk gd_Model_solve_101
    · have h := gf_f c56 h
      refine lv_aload_n hx hb gd_Model_solve_27 rfl (lv_at hl 1 rfl) ?_
      obtain ⟨q64, e65, h⟩ := gf_nn_ok h
      refine gw_getr (k := 23) (ty := 10) (ref := R_Model) C hW o_t0 (by decide) rfl gi_Model rfl (by decide) rfl rfl gk_468 gd_Model_solve_28 e65 ?_
      have o_q64 := hW.ref (d := 10) o_t0 e65 rfl
      refine lv_iload_n hx hb gd_Model_solve_31 rfl (lv_at hl 0 rfl) ?_
      obtain ⟨g66, h⟩ := gf_if_ok h
      refine gw_iald C hW o_q64 g66 gd_Model_solve_32 ?_
      refine lv_aload_n hx hb gd_Model_solve_33 rfl (lv_at hl 1 rfl) ?_
      obtain ⟨q67, e68, h⟩ := gf_nn_ok h
      refine gw_getr (k := 24) (ty := 10) (ref := R_Model) C hW o_t0 (by decide) rfl gi_Model rfl (by decide) rfl rfl gk_469 gd_Model_solve_34 e68 ?_
      have o_q67 := hW.ref (d := 10) o_t0 e68 rfl
      refine lv_iload_n hx hb gd_Model_solve_37 rfl (lv_at hl 0 rfl) ?_
      obtain ⟨g69, h⟩ := gf_if_ok h
      refine gw_iald C hW o_q67 g69 gd_Model_solve_38 ?_
      refine lv_icmp_ge (tgt := 51) hx hb gd_Model_solve_39 (by decide) (fun c70 => ?_) (fun c70 => ?_)
      · have h := gf_t c70 h
        refine lv_aload_n hx hb gd_Model_solve_51 rfl (lv_at hl 1 rfl) ?_
        obtain ⟨q71, e72, h⟩ := gf_nn_ok h
        refine gw_getr (k := 24) (ty := 10) (ref := R_Model) C hW o_t0 (by decide) rfl gi_Model rfl (by decide) rfl rfl gk_469 gd_Model_solve_52 e72 ?_
        have o_q71 := hW.ref (d := 10) o_t0 e72 rfl
        refine lv_iload_n hx hb gd_Model_solve_55 rfl (lv_at hl 0 rfl) ?_
        obtain ⟨g73, h⟩ := gf_if_ok h
        refine gw_iald C hW o_q71 g73 gd_Model_solve_56 ?_
        exact gx_Model_solve_b57 F C hr hk  u53 t0 a55 (u53.1 q71 (a55).toNatClampNeg) o_t0 hW (lv_sub hl [1, 0] rfl) h
      · have h := gf_f c70 h
        refine lv_aload_n hx hb gd_Model_solve_42 rfl (lv_at hl 1 rfl) ?_
        obtain ⟨q74, e75, h⟩ := gf_nn_ok h
        refine gw_getr (k := 23) (ty := 10) (ref := R_Model) C hW o_t0 (by decide) rfl gi_Model rfl (by decide) rfl rfl gk_468 gd_Model_solve_43 e75 ?_
        have o_q74 := hW.ref (d := 10) o_t0 e75 rfl
        refine lv_iload_n hx hb gd_Model_solve_46 rfl (lv_at hl 0 rfl) ?_
        obtain ⟨g76, h⟩ := gf_if_ok h
        refine gw_iald C hW o_q74 g76 gd_Model_solve_47 ?_
        refine lv_goto (tgt := 57) hx hb gd_Model_solve_48 (by decide) ?_
        exact gx_Model_solve_b57 F C hr hk  u53 t0 a55 (u53.1 q74 (a55).toNatClampNeg) o_t0 hW (lv_sub hl [1, 0] rfl) h
  · have h := gf_f c52 h
    refine lv_aload_n hx hb gd_Model_solve_12 rfl (lv_at hl 0 rfl) ?_
    refine lv_iconst (v := 1) hx hb gd_Model_solve_13 (by decide) ?_
    obtain ⟨a79, u77, d78, h⟩ := gf_cl_ok h
    refine gw_callVi (K := R_Model) (As := [.int (1 : Int32)]) (rest := []) C hW (fun _ h => Or.inr h) hl.1 gm_Model_fail (gc_Model_fail l F o_t0 d78 _) gk_385 gk_386 gk_387 o_t0 (by decide) rfl rfl rfl ⟨Nat.le_of_ble_eq_true rfl, Nat.le_of_ble_eq_true rfl⟩ ⟨Nat.zero_le _, Nat.zero_le _⟩ rfl rfl (Nat.le_of_ble_eq_true rfl) gd_Model_solve_14 (fun H locs hW => ?_)
    obtain rfl := Option.some.inj h
    exact gw_iret C hW hr hk gd_Model_solve_17

set_option maxRecDepth 20000 in
theorem gc_Model_solve (l : Launch) {D : va_G} {cA : Nat → ClassId} {hs : Nat → Nat} {z : gw_Sh} (F : Nat) {u : gw_St} {r0 : (Int32 × gw_St)} {t0 : Nat} (o_t0 : gw_ok z t0 9) (h : gf_Model_solve F z u t0 = some r0) (sz : Nat) : gw_Mi l gy_Model_solve gb_Model_solve 4 (some .int) gr_Model_solve [.ref (hs t0)] D cA hs z u sz r0 := by
  refine gw_enter (by decide) (Nat.le_of_ble_eq_true rfl) ?_
  intro p e s m below meth c ls hsz C hW hr hk _ hl
  subst hsz
  exact gx_Model_solve_b0 F C hr hk u t0 o_t0 hW (lv_sub hl [0] rfl) h
