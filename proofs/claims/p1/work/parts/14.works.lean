-- GearDesk$Works.addGear(I)I
theorem gk_108 : Cond.fieldLink R_Works 9 R_Works "teeth" "[I" ∈ gt_T := gt_m1 (List.mem_of_getElem? (i := 107) rfl) rfl
theorem gk_109 : Cond.fieldLink R_Works 22 R_Works "gears" "I" ∈ gt_T := gt_m1 (List.mem_of_getElem? (i := 112) rfl) rfl
theorem gk_110 : Cond.initialized R_Works ∈ gt_T := gt_m1 (List.mem_of_getElem? (i := 3) rfl) rfl
def gy_Works_addGear : MethodName := ⟨R_Works, "addGear", "(I)I"⟩
abbrev gb_Works_addGear : ByteArray := prog_9_method_2_code
theorem gk_111 : Cond.code gy_Works_addGear gb_Works_addGear 2 (some .int) ∈ gt_T := gt_m4 (List.mem_of_getElem? (i := 191) rfl) rfl
def gr_Works_addGear : Room := gw_rm 1 64
theorem gm_Works_addGear : gw_Mth gy_Works_addGear gb_Works_addGear 2 (some .int) 1 := ⟨gk_111, gk_110, ⟨by decide +kernel, by decide +kernel⟩, by decide +kernel⟩
theorem gd_Works_addGear_0 : decode gb_Works_addGear 0 = .ok (.aload_n 0, 1) := by decide +kernel
theorem gd_Works_addGear_1 : decode gb_Works_addGear 1 = .ok (.getfield 9, 3) := by decide +kernel
theorem gd_Works_addGear_4 : decode gb_Works_addGear 4 = .ok (.aload_n 0, 1) := by decide +kernel
theorem gd_Works_addGear_5 : decode gb_Works_addGear 5 = .ok (.getfield 22, 3) := by decide +kernel
theorem gd_Works_addGear_8 : decode gb_Works_addGear 8 = .ok (.iload_n 1, 1) := by decide +kernel
theorem gd_Works_addGear_9 : decode gb_Works_addGear 9 = .ok (.iastore, 1) := by decide +kernel
theorem gd_Works_addGear_10 : decode gb_Works_addGear 10 = .ok (.aload_n 0, 1) := by decide +kernel
theorem gd_Works_addGear_11 : decode gb_Works_addGear 11 = .ok (.dup, 1) := by decide +kernel
theorem gd_Works_addGear_12 : decode gb_Works_addGear 12 = .ok (.getfield 22, 3) := by decide +kernel
theorem gd_Works_addGear_15 : decode gb_Works_addGear 15 = .ok (.iconst 1, 1) := by decide +kernel
theorem gd_Works_addGear_16 : decode gb_Works_addGear 16 = .ok (.iadd, 1) := by decide +kernel
theorem gd_Works_addGear_17 : decode gb_Works_addGear 17 = .ok (.putfield 22, 3) := by decide +kernel
theorem gd_Works_addGear_20 : decode gb_Works_addGear 20 = .ok (.aload_n 0, 1) := by decide +kernel
theorem gd_Works_addGear_21 : decode gb_Works_addGear 21 = .ok (.getfield 22, 3) := by decide +kernel
theorem gd_Works_addGear_24 : decode gb_Works_addGear 24 = .ok (.iconst 1, 1) := by decide +kernel
theorem gd_Works_addGear_25 : decode gb_Works_addGear 25 = .ok (.isub, 1) := by decide +kernel
theorem gd_Works_addGear_26 : decode gb_Works_addGear 26 = .ok (.ireturn, 1) := by decide +kernel
def gf_Works_addGear_b0 (F : Nat) (z : gw_Sh)  (u : gw_St) (t0 : Nat) (x1 : Int32) : Option (Int32 × gw_St) :=
  gf_nn (u.2.2 t0 0) fun q1 => if ((u.1 t0 2) < 0 ∨ z.2.2 q1 ≤ ((u.1 t0 2)).toNatClampNeg) then none else gf_nm (gw_wi u q1 ((u.1 t0 2)).toNatClampNeg x1) fun u4 => gf_nm (gw_wi u4 t0 2 ((u4.1 t0 2) + (1 : Int32))) fun u6 => some (((u6.1 t0 2) - (1 : Int32)), u6)
def gf_Works_addGear (F : Nat) (z : gw_Sh) (u : gw_St) (t0 : Nat) (x1 : Int32) : Option (Int32 × gw_St) := gf_Works_addGear_b0 F z  u t0 x1
set_option maxHeartbeats 4000000 in
set_option maxRecDepth 20000 in
theorem gx_Works_addGear_b0 {p : Program} {l : Launch} {e : Env} {s : State} {m : MethodId} {args : Array Value} {below : List Frame} {meth : Method} {c : Code} {D : va_G} {cA : Nat → ClassId} {hs : Nat → Nat} {z : gw_Sh} (F : Nat) {r0 : (Int32 × gw_St)} (C : gw_Cx p s m args c gb_Works_addGear 2 R_Works D cA) (hr : meth.sig.returnType = (some .int)) (hk : meth.locks = false) (u : gw_St) (t0 : Nat) (x1 : Int32) (o_t0 : gw_ok z t0 2) {H : Heap} {locs : List Loc} {ls : Array Slot} (hW : gw_Wx D cA hs z s u H locs) (hl : lv_has ls 2 [(0, .ref (hs t0)), (1, .int x1)]) (h : gf_Works_addGear_b0 F z   u t0 x1 = some r0) : gw_Gi p l e gr_Works_addGear s m args below meth c D cA hs z r0 H locs ls 0 [] := by
  obtain ⟨hx, hb, hml, hown, hts, hK⟩ := id C
  unfold gf_Works_addGear_b0 at h
  refine lv_aload_n hx hb gd_Works_addGear_0 rfl (lv_at hl 0 rfl) ?_
  obtain ⟨q1, e2, h⟩ := gf_nn_ok h
  refine gw_getr (k := 0) (ty := 10) (ref := R_Works) C hW o_t0 (by decide) rfl gi_Works rfl (by decide) rfl rfl gk_108 gd_Works_addGear_1 e2 ?_
  have o_q1 := hW.ref (d := 10) o_t0 e2 rfl
  refine lv_aload_n hx hb gd_Works_addGear_4 rfl (lv_at hl 0 rfl) ?_
  refine gw_geti (k := 2) (ref := R_Works) C hW o_t0 (by decide) rfl gi_Works rfl (by decide) rfl rfl gk_109 gd_Works_addGear_5 ?_
  refine lv_iload_n hx hb gd_Works_addGear_8 rfl (lv_at hl 1 rfl) ?_
  obtain ⟨g3, h⟩ := gf_if_ok h
  refine gw_iast C hW o_q1 g3 gd_Works_addGear_9 (fun u4 H locs e5 hW => ?_)
  have h := gf_nm_ok e5 h
  refine lv_aload_n hx hb gd_Works_addGear_10 rfl (lv_at hl 0 rfl) ?_
  refine lv_dup hx hb gd_Works_addGear_11 rfl ?_
  refine gw_geti (k := 2) (ref := R_Works) C hW o_t0 (by decide) rfl gi_Works rfl (by decide) rfl rfl gk_109 gd_Works_addGear_12 ?_
  refine lv_iconst (v := 1) hx hb gd_Works_addGear_15 (by decide) ?_
  refine lv_iadd hx hb gd_Works_addGear_16 ?_
  refine gw_puti (k := 2) (ref := R_Works) (fty := .int) C hW o_t0 (by decide) rfl gi_Works rfl (by decide) rfl rfl gk_109 tf_Works tf_Works_ok nm_Works rfl rfl rfl rfl gd_Works_addGear_17 (fun u6 H locs e7 hW => ?_)
  have h := gf_nm_ok e7 h
  refine lv_aload_n hx hb gd_Works_addGear_20 rfl (lv_at hl 0 rfl) ?_
  refine gw_geti (k := 2) (ref := R_Works) C hW o_t0 (by decide) rfl gi_Works rfl (by decide) rfl rfl gk_109 gd_Works_addGear_21 ?_
  refine lv_iconst (v := 1) hx hb gd_Works_addGear_24 (by decide) ?_
  refine lv_isub hx hb gd_Works_addGear_25 ?_
  obtain rfl := Option.some.inj h
  exact gw_iret C hW hr hk gd_Works_addGear_26

set_option maxRecDepth 20000 in
theorem gc_Works_addGear (l : Launch) {D : va_G} {cA : Nat → ClassId} {hs : Nat → Nat} {z : gw_Sh} (F : Nat) {u : gw_St} {r0 : (Int32 × gw_St)} {t0 : Nat} {x1 : Int32} (o_t0 : gw_ok z t0 2) (h : gf_Works_addGear F z u t0 x1 = some r0) (sz : Nat) : gw_Mi l gy_Works_addGear gb_Works_addGear 2 (some .int) gr_Works_addGear [.ref (hs t0), .int x1] D cA hs z u sz r0 := by
  refine gw_enter (by decide) (Nat.le_of_ble_eq_true rfl) ?_
  intro p e s m below meth c ls hsz C hW hr hk _ hl
  subst hsz
  exact gx_Works_addGear_b0 F C hr hk u t0 x1 o_t0 hW (lv_sub hl [0, 1] rfl) h
-- GearDesk$Works.addRelation(IIII)I
theorem gk_112 : Cond.fieldLink R_Works 25 R_Works "relations" "I" ∈ gt_T := gt_m1 (List.mem_of_getElem? (i := 115) rfl) rfl
theorem gk_113 : Cond.fieldLink R_Works 15 R_Works "parts" "[I" ∈ gt_T := gt_m1 (List.mem_of_getElem? (i := 110) rfl) rfl
def gy_Works_addRelation : MethodName := ⟨R_Works, "addRelation", "(IIII)I"⟩
abbrev gb_Works_addRelation : ByteArray := prog_9_method_3_code
theorem gk_114 : Cond.code gy_Works_addRelation gb_Works_addRelation 6 (some .int) ∈ gt_T := gt_m4 (List.mem_of_getElem? (i := 214) rfl) rfl
def gr_Works_addRelation : Room := gw_rm 1 64
theorem gm_Works_addRelation : gw_Mth gy_Works_addRelation gb_Works_addRelation 6 (some .int) 4 := ⟨gk_114, gk_110, ⟨by decide +kernel, by decide +kernel⟩, by decide +kernel⟩
theorem gd_Works_addRelation_0 : decode gb_Works_addRelation 0 = .ok (.aload_n 0, 1) := by decide +kernel
theorem gd_Works_addRelation_1 : decode gb_Works_addRelation 1 = .ok (.getfield 25, 3) := by decide +kernel
theorem gd_Works_addRelation_4 : decode gb_Works_addRelation 4 = .ok (.iconst 4, 1) := by decide +kernel
theorem gd_Works_addRelation_5 : decode gb_Works_addRelation 5 = .ok (.imul, 1) := by decide +kernel
theorem gd_Works_addRelation_6 : decode gb_Works_addRelation 6 = .ok (.istore 5, 2) := by decide +kernel
theorem gd_Works_addRelation_8 : decode gb_Works_addRelation 8 = .ok (.aload_n 0, 1) := by decide +kernel
theorem gd_Works_addRelation_9 : decode gb_Works_addRelation 9 = .ok (.getfield 15, 3) := by decide +kernel
theorem gd_Works_addRelation_12 : decode gb_Works_addRelation 12 = .ok (.iload 5, 2) := by decide +kernel
theorem gd_Works_addRelation_14 : decode gb_Works_addRelation 14 = .ok (.iload_n 1, 1) := by decide +kernel
theorem gd_Works_addRelation_15 : decode gb_Works_addRelation 15 = .ok (.iastore, 1) := by decide +kernel
theorem gd_Works_addRelation_16 : decode gb_Works_addRelation 16 = .ok (.aload_n 0, 1) := by decide +kernel
theorem gd_Works_addRelation_17 : decode gb_Works_addRelation 17 = .ok (.getfield 15, 3) := by decide +kernel
theorem gd_Works_addRelation_20 : decode gb_Works_addRelation 20 = .ok (.iload 5, 2) := by decide +kernel
theorem gd_Works_addRelation_22 : decode gb_Works_addRelation 22 = .ok (.iconst 1, 1) := by decide +kernel
theorem gd_Works_addRelation_23 : decode gb_Works_addRelation 23 = .ok (.iadd, 1) := by decide +kernel
theorem gd_Works_addRelation_24 : decode gb_Works_addRelation 24 = .ok (.iload_n 2, 1) := by decide +kernel
theorem gd_Works_addRelation_25 : decode gb_Works_addRelation 25 = .ok (.iastore, 1) := by decide +kernel
theorem gd_Works_addRelation_26 : decode gb_Works_addRelation 26 = .ok (.aload_n 0, 1) := by decide +kernel
theorem gd_Works_addRelation_27 : decode gb_Works_addRelation 27 = .ok (.getfield 15, 3) := by decide +kernel
theorem gd_Works_addRelation_30 : decode gb_Works_addRelation 30 = .ok (.iload 5, 2) := by decide +kernel
theorem gd_Works_addRelation_32 : decode gb_Works_addRelation 32 = .ok (.iconst 2, 1) := by decide +kernel
theorem gd_Works_addRelation_33 : decode gb_Works_addRelation 33 = .ok (.iadd, 1) := by decide +kernel
theorem gd_Works_addRelation_34 : decode gb_Works_addRelation 34 = .ok (.iload_n 3, 1) := by decide +kernel
theorem gd_Works_addRelation_35 : decode gb_Works_addRelation 35 = .ok (.iastore, 1) := by decide +kernel
theorem gd_Works_addRelation_36 : decode gb_Works_addRelation 36 = .ok (.aload_n 0, 1) := by decide +kernel
theorem gd_Works_addRelation_37 : decode gb_Works_addRelation 37 = .ok (.getfield 15, 3) := by decide +kernel
theorem gd_Works_addRelation_40 : decode gb_Works_addRelation 40 = .ok (.iload 5, 2) := by decide +kernel
theorem gd_Works_addRelation_42 : decode gb_Works_addRelation 42 = .ok (.iconst 3, 1) := by decide +kernel
theorem gd_Works_addRelation_43 : decode gb_Works_addRelation 43 = .ok (.iadd, 1) := by decide +kernel
theorem gd_Works_addRelation_44 : decode gb_Works_addRelation 44 = .ok (.iload 4, 2) := by decide +kernel
theorem gd_Works_addRelation_46 : decode gb_Works_addRelation 46 = .ok (.iastore, 1) := by decide +kernel
theorem gd_Works_addRelation_47 : decode gb_Works_addRelation 47 = .ok (.aload_n 0, 1) := by decide +kernel
theorem gd_Works_addRelation_48 : decode gb_Works_addRelation 48 = .ok (.dup, 1) := by decide +kernel
theorem gd_Works_addRelation_49 : decode gb_Works_addRelation 49 = .ok (.getfield 25, 3) := by decide +kernel
theorem gd_Works_addRelation_52 : decode gb_Works_addRelation 52 = .ok (.iconst 1, 1) := by decide +kernel
theorem gd_Works_addRelation_53 : decode gb_Works_addRelation 53 = .ok (.iadd, 1) := by decide +kernel
theorem gd_Works_addRelation_54 : decode gb_Works_addRelation 54 = .ok (.putfield 25, 3) := by decide +kernel
theorem gd_Works_addRelation_57 : decode gb_Works_addRelation 57 = .ok (.aload_n 0, 1) := by decide +kernel
theorem gd_Works_addRelation_58 : decode gb_Works_addRelation 58 = .ok (.getfield 25, 3) := by decide +kernel
theorem gd_Works_addRelation_61 : decode gb_Works_addRelation 61 = .ok (.iconst 1, 1) := by decide +kernel
theorem gd_Works_addRelation_62 : decode gb_Works_addRelation 62 = .ok (.isub, 1) := by decide +kernel
theorem gd_Works_addRelation_63 : decode gb_Works_addRelation 63 = .ok (.ireturn, 1) := by decide +kernel
def gf_Works_addRelation_b0 (F : Nat) (z : gw_Sh)  (u : gw_St) (t0 : Nat) (x1 : Int32) (x2 : Int32) (x3 : Int32) (x4 : Int32) : Option (Int32 × gw_St) :=
  gf_nm ((u.1 t0 3) * (4 : Int32)) fun a1 => gf_nn (u.2.2 t0 1) fun q3 => if (a1 < 0 ∨ z.2.2 q3 ≤ (a1).toNatClampNeg) then none else gf_nm (gw_wi u q3 (a1).toNatClampNeg x1) fun u6 => gf_nn (u6.2.2 t0 1) fun q8 => if ((a1 + (1 : Int32)) < 0 ∨ z.2.2 q8 ≤ ((a1 + (1 : Int32))).toNatClampNeg) then none else gf_nm (gw_wi u6 q8 ((a1 + (1 : Int32))).toNatClampNeg x2) fun u11 => gf_nn (u11.2.2 t0 1) fun q13 => if ((a1 + (2 : Int32)) < 0 ∨ z.2.2 q13 ≤ ((a1 + (2 : Int32))).toNatClampNeg) then none else gf_nm (gw_wi u11 q13 ((a1 + (2 : Int32))).toNatClampNeg x3) fun u16 => gf_nn (u16.2.2 t0 1) fun q18 => if ((a1 + (3 : Int32)) < 0 ∨ z.2.2 q18 ≤ ((a1 + (3 : Int32))).toNatClampNeg) then none else gf_nm (gw_wi u16 q18 ((a1 + (3 : Int32))).toNatClampNeg x4) fun u21 => gf_nm (gw_wi u21 t0 3 ((u21.1 t0 3) + (1 : Int32))) fun u23 => some (((u23.1 t0 3) - (1 : Int32)), u23)
def gf_Works_addRelation (F : Nat) (z : gw_Sh) (u : gw_St) (t0 : Nat) (x1 : Int32) (x2 : Int32) (x3 : Int32) (x4 : Int32) : Option (Int32 × gw_St) := gf_Works_addRelation_b0 F z  u t0 x1 x2 x3 x4
set_option maxHeartbeats 4000000 in
set_option maxRecDepth 20000 in
theorem gx_Works_addRelation_b0 {p : Program} {l : Launch} {e : Env} {s : State} {m : MethodId} {args : Array Value} {below : List Frame} {meth : Method} {c : Code} {D : va_G} {cA : Nat → ClassId} {hs : Nat → Nat} {z : gw_Sh} (F : Nat) {r0 : (Int32 × gw_St)} (C : gw_Cx p s m args c gb_Works_addRelation 6 R_Works D cA) (hr : meth.sig.returnType = (some .int)) (hk : meth.locks = false) (u : gw_St) (t0 : Nat) (x1 : Int32) (x2 : Int32) (x3 : Int32) (x4 : Int32) (o_t0 : gw_ok z t0 2) {H : Heap} {locs : List Loc} {ls : Array Slot} (hW : gw_Wx D cA hs z s u H locs) (hl : lv_has ls 6 [(0, .ref (hs t0)), (1, .int x1), (2, .int x2), (3, .int x3), (4, .int x4)]) (h : gf_Works_addRelation_b0 F z   u t0 x1 x2 x3 x4 = some r0) : gw_Gi p l e gr_Works_addRelation s m args below meth c D cA hs z r0 H locs ls 0 [] := by
  obtain ⟨hx, hb, hml, hown, hts, hK⟩ := id C
  unfold gf_Works_addRelation_b0 at h
  refine lv_aload_n hx hb gd_Works_addRelation_0 rfl (lv_at hl 0 rfl) ?_
  refine gw_geti (k := 3) (ref := R_Works) C hW o_t0 (by decide) rfl gi_Works rfl (by decide) rfl rfl gk_112 gd_Works_addRelation_1 ?_
  refine lv_iconst (v := 4) hx hb gd_Works_addRelation_4 (by decide) ?_
  refine lv_imul hx hb gd_Works_addRelation_5 ?_
  refine lv_topi (fun a1 e2 => ?_)
  have h := gf_nm_ok e2 h
  refine lv_istore (lv' := [(5, .int a1), (0, .ref (hs t0)), (1, .int x1), (2, .int x2), (3, .int x3), (4, .int x4)]) hx hb gd_Works_addRelation_6 hl (by decide) rfl (fun ls hl => ?_)
  refine lv_aload_n hx hb gd_Works_addRelation_8 rfl (lv_at hl 1 rfl) ?_
  obtain ⟨q3, e4, h⟩ := gf_nn_ok h
  refine gw_getr (k := 1) (ty := 10) (ref := R_Works) C hW o_t0 (by decide) rfl gi_Works rfl (by decide) rfl rfl gk_113 gd_Works_addRelation_9 e4 ?_
  have o_q3 := hW.ref (d := 10) o_t0 e4 rfl
  refine lv_iload hx hb gd_Works_addRelation_12 (lv_at hl 0 rfl) ?_
  refine lv_iload_n hx hb gd_Works_addRelation_14 rfl (lv_at hl 2 rfl) ?_
  obtain ⟨g5, h⟩ := gf_if_ok h
  refine gw_iast C hW o_q3 g5 gd_Works_addRelation_15 (fun u6 H locs e7 hW => ?_)
  have h := gf_nm_ok e7 h
  refine lv_aload_n hx hb gd_Works_addRelation_16 rfl (lv_at hl 1 rfl) ?_
  obtain ⟨q8, e9, h⟩ := gf_nn_ok h
  refine gw_getr (k := 1) (ty := 10) (ref := R_Works) C hW o_t0 (by decide) rfl gi_Works rfl (by decide) rfl rfl gk_113 gd_Works_addRelation_17 e9 ?_
  have o_q8 := hW.ref (d := 10) o_t0 e9 rfl
  refine lv_iload hx hb gd_Works_addRelation_20 (lv_at hl 0 rfl) ?_
  refine lv_iconst (v := 1) hx hb gd_Works_addRelation_22 (by decide) ?_
  refine lv_iadd hx hb gd_Works_addRelation_23 ?_
  refine lv_iload_n hx hb gd_Works_addRelation_24 rfl (lv_at hl 3 rfl) ?_
  obtain ⟨g10, h⟩ := gf_if_ok h
  refine gw_iast C hW o_q8 g10 gd_Works_addRelation_25 (fun u11 H locs e12 hW => ?_)
  have h := gf_nm_ok e12 h
  refine lv_aload_n hx hb gd_Works_addRelation_26 rfl (lv_at hl 1 rfl) ?_
  obtain ⟨q13, e14, h⟩ := gf_nn_ok h
  refine gw_getr (k := 1) (ty := 10) (ref := R_Works) C hW o_t0 (by decide) rfl gi_Works rfl (by decide) rfl rfl gk_113 gd_Works_addRelation_27 e14 ?_
  have o_q13 := hW.ref (d := 10) o_t0 e14 rfl
  refine lv_iload hx hb gd_Works_addRelation_30 (lv_at hl 0 rfl) ?_
  refine lv_iconst (v := 2) hx hb gd_Works_addRelation_32 (by decide) ?_
  refine lv_iadd hx hb gd_Works_addRelation_33 ?_
  refine lv_iload_n hx hb gd_Works_addRelation_34 rfl (lv_at hl 4 rfl) ?_
  obtain ⟨g15, h⟩ := gf_if_ok h
  refine gw_iast C hW o_q13 g15 gd_Works_addRelation_35 (fun u16 H locs e17 hW => ?_)
  have h := gf_nm_ok e17 h
  refine lv_aload_n hx hb gd_Works_addRelation_36 rfl (lv_at hl 1 rfl) ?_
  obtain ⟨q18, e19, h⟩ := gf_nn_ok h
  refine gw_getr (k := 1) (ty := 10) (ref := R_Works) C hW o_t0 (by decide) rfl gi_Works rfl (by decide) rfl rfl gk_113 gd_Works_addRelation_37 e19 ?_
  have o_q18 := hW.ref (d := 10) o_t0 e19 rfl
  refine lv_iload hx hb gd_Works_addRelation_40 (lv_at hl 0 rfl) ?_
  refine lv_iconst (v := 3) hx hb gd_Works_addRelation_42 (by decide) ?_
  refine lv_iadd hx hb gd_Works_addRelation_43 ?_
  refine lv_iload hx hb gd_Works_addRelation_44 (lv_at hl 5 rfl) ?_
  obtain ⟨g20, h⟩ := gf_if_ok h
  refine gw_iast C hW o_q18 g20 gd_Works_addRelation_46 (fun u21 H locs e22 hW => ?_)
  have h := gf_nm_ok e22 h
  refine lv_aload_n hx hb gd_Works_addRelation_47 rfl (lv_at hl 1 rfl) ?_
  refine lv_dup hx hb gd_Works_addRelation_48 rfl ?_
  refine gw_geti (k := 3) (ref := R_Works) C hW o_t0 (by decide) rfl gi_Works rfl (by decide) rfl rfl gk_112 gd_Works_addRelation_49 ?_
  refine lv_iconst (v := 1) hx hb gd_Works_addRelation_52 (by decide) ?_
  refine lv_iadd hx hb gd_Works_addRelation_53 ?_
  refine gw_puti (k := 3) (ref := R_Works) (fty := .int) C hW o_t0 (by decide) rfl gi_Works rfl (by decide) rfl rfl gk_112 tf_Works tf_Works_ok nm_Works rfl rfl rfl rfl gd_Works_addRelation_54 (fun u23 H locs e24 hW => ?_)
  have h := gf_nm_ok e24 h
  refine lv_aload_n hx hb gd_Works_addRelation_57 rfl (lv_at hl 1 rfl) ?_
  refine gw_geti (k := 3) (ref := R_Works) C hW o_t0 (by decide) rfl gi_Works rfl (by decide) rfl rfl gk_112 gd_Works_addRelation_58 ?_
  refine lv_iconst (v := 1) hx hb gd_Works_addRelation_61 (by decide) ?_
  refine lv_isub hx hb gd_Works_addRelation_62 ?_
  obtain rfl := Option.some.inj h
  exact gw_iret C hW hr hk gd_Works_addRelation_63

set_option maxRecDepth 20000 in
theorem gc_Works_addRelation (l : Launch) {D : va_G} {cA : Nat → ClassId} {hs : Nat → Nat} {z : gw_Sh} (F : Nat) {u : gw_St} {r0 : (Int32 × gw_St)} {t0 : Nat} {x1 : Int32} {x2 : Int32} {x3 : Int32} {x4 : Int32} (o_t0 : gw_ok z t0 2) (h : gf_Works_addRelation F z u t0 x1 x2 x3 x4 = some r0) (sz : Nat) : gw_Mi l gy_Works_addRelation gb_Works_addRelation 6 (some .int) gr_Works_addRelation [.ref (hs t0), .int x1, .int x2, .int x3, .int x4] D cA hs z u sz r0 := by
  refine gw_enter (by decide) (Nat.le_of_ble_eq_true rfl) ?_
  intro p e s m below meth c ls hsz C hW hr hk _ hl
  subst hsz
  exact gx_Works_addRelation_b0 F C hr hk u t0 x1 x2 x3 x4 o_t0 hW (lv_sub hl [0, 1, 2, 3, 4] rfl) h
-- GearDesk$Works.dropRelation(I)V
theorem gk_115 : Cond.methodLink R_Works 28 arraycopyName ∈ gt_T := gt_m5 (List.mem_of_getElem? (i := 11) rfl) rfl
def gy_Works_dropRelation : MethodName := ⟨R_Works, "dropRelation", "(I)V"⟩
abbrev gb_Works_dropRelation : ByteArray := prog_9_method_4_code
theorem gk_116 : Cond.code gy_Works_dropRelation gb_Works_dropRelation 3 none ∈ gt_T := gt_m5 (List.mem_of_getElem? (i := 10) rfl) rfl
def gr_Works_dropRelation : Room := gw_rm 1 64
theorem gm_Works_dropRelation : gw_Mth gy_Works_dropRelation gb_Works_dropRelation 3 none 1 := ⟨gk_116, gk_110, ⟨by decide +kernel, by decide +kernel⟩, by decide +kernel⟩
theorem gd_Works_dropRelation_0 : decode gb_Works_dropRelation 0 = .ok (.iload_n 1, 1) := by decide +kernel
theorem gd_Works_dropRelation_1 : decode gb_Works_dropRelation 1 = .ok (.iconst 4, 1) := by decide +kernel
theorem gd_Works_dropRelation_2 : decode gb_Works_dropRelation 2 = .ok (.imul, 1) := by decide +kernel
theorem gd_Works_dropRelation_3 : decode gb_Works_dropRelation 3 = .ok (.istore_n 2, 1) := by decide +kernel
theorem gd_Works_dropRelation_4 : decode gb_Works_dropRelation 4 = .ok (.aload_n 0, 1) := by decide +kernel
theorem gd_Works_dropRelation_5 : decode gb_Works_dropRelation 5 = .ok (.dup, 1) := by decide +kernel
theorem gd_Works_dropRelation_6 : decode gb_Works_dropRelation 6 = .ok (.getfield 25, 3) := by decide +kernel
theorem gd_Works_dropRelation_9 : decode gb_Works_dropRelation 9 = .ok (.iconst 1, 1) := by decide +kernel
theorem gd_Works_dropRelation_10 : decode gb_Works_dropRelation 10 = .ok (.isub, 1) := by decide +kernel
theorem gd_Works_dropRelation_11 : decode gb_Works_dropRelation 11 = .ok (.putfield 25, 3) := by decide +kernel
theorem gd_Works_dropRelation_14 : decode gb_Works_dropRelation 14 = .ok (.aload_n 0, 1) := by decide +kernel
theorem gd_Works_dropRelation_15 : decode gb_Works_dropRelation 15 = .ok (.getfield 15, 3) := by decide +kernel
theorem gd_Works_dropRelation_18 : decode gb_Works_dropRelation 18 = .ok (.iload_n 2, 1) := by decide +kernel
theorem gd_Works_dropRelation_19 : decode gb_Works_dropRelation 19 = .ok (.iconst 4, 1) := by decide +kernel
theorem gd_Works_dropRelation_20 : decode gb_Works_dropRelation 20 = .ok (.iadd, 1) := by decide +kernel
theorem gd_Works_dropRelation_21 : decode gb_Works_dropRelation 21 = .ok (.aload_n 0, 1) := by decide +kernel
theorem gd_Works_dropRelation_22 : decode gb_Works_dropRelation 22 = .ok (.getfield 15, 3) := by decide +kernel
theorem gd_Works_dropRelation_25 : decode gb_Works_dropRelation 25 = .ok (.iload_n 2, 1) := by decide +kernel
theorem gd_Works_dropRelation_26 : decode gb_Works_dropRelation 26 = .ok (.aload_n 0, 1) := by decide +kernel
theorem gd_Works_dropRelation_27 : decode gb_Works_dropRelation 27 = .ok (.getfield 25, 3) := by decide +kernel
theorem gd_Works_dropRelation_30 : decode gb_Works_dropRelation 30 = .ok (.iconst 4, 1) := by decide +kernel
theorem gd_Works_dropRelation_31 : decode gb_Works_dropRelation 31 = .ok (.imul, 1) := by decide +kernel
theorem gd_Works_dropRelation_32 : decode gb_Works_dropRelation 32 = .ok (.iload_n 2, 1) := by decide +kernel
theorem gd_Works_dropRelation_33 : decode gb_Works_dropRelation 33 = .ok (.isub, 1) := by decide +kernel
theorem gd_Works_dropRelation_34 : decode gb_Works_dropRelation 34 = .ok (.invokestatic 28, 3) := by decide +kernel
theorem gd_Works_dropRelation_37 : decode gb_Works_dropRelation 37 = .ok (.return_, 1) := by decide +kernel
def gf_Works_dropRelation_b0 (F : Nat) (z : gw_Sh)  (u : gw_St) (t0 : Nat) (x1 : Int32) : Option gw_St :=
  gf_nm (x1 * (4 : Int32)) fun a1 => gf_nm (gw_wi u t0 3 ((u.1 t0 3) - (1 : Int32))) fun u3 => gf_nn (u3.2.2 t0 1) fun q5 => gf_nn (u3.2.2 t0 1) fun q7 => if ((a1 + (4 : Int32)) < 0 ∨ a1 < 0 ∨ (((u3.1 t0 3) * (4 : Int32)) - a1) < 0 ∨ z.2.2 q5 < ((a1 + (4 : Int32))).toNatClampNeg + ((((u3.1 t0 3) * (4 : Int32)) - a1)).toNatClampNeg ∨ z.2.2 q7 < (a1).toNatClampNeg + ((((u3.1 t0 3) * (4 : Int32)) - a1)).toNatClampNeg) then none else gf_nm (gw_cp u3 q5 ((a1 + (4 : Int32))).toNatClampNeg q7 (a1).toNatClampNeg ((((u3.1 t0 3) * (4 : Int32)) - a1)).toNatClampNeg) fun u10 => some u10
def gf_Works_dropRelation (F : Nat) (z : gw_Sh) (u : gw_St) (t0 : Nat) (x1 : Int32) : Option gw_St := gf_Works_dropRelation_b0 F z  u t0 x1
set_option maxHeartbeats 4000000 in
set_option maxRecDepth 20000 in
theorem gx_Works_dropRelation_b0 {p : Program} {l : Launch} {e : Env} {s : State} {m : MethodId} {args : Array Value} {below : List Frame} {meth : Method} {c : Code} {D : va_G} {cA : Nat → ClassId} {hs : Nat → Nat} {z : gw_Sh} (F : Nat) {r0 : gw_St} (C : gw_Cx p s m args c gb_Works_dropRelation 3 R_Works D cA) (hr : meth.sig.returnType = none) (hk : meth.locks = false) (u : gw_St) (t0 : Nat) (x1 : Int32) (o_t0 : gw_ok z t0 2) {H : Heap} {locs : List Loc} {ls : Array Slot} (hW : gw_Wx D cA hs z s u H locs) (hl : lv_has ls 3 [(0, .ref (hs t0)), (1, .int x1)]) (h : gf_Works_dropRelation_b0 F z   u t0 x1 = some r0) : gw_Gv p l e gr_Works_dropRelation s m args below meth c D cA hs z r0 H locs ls 0 [] := by
  obtain ⟨hx, hb, hml, hown, hts, hK⟩ := id C
  unfold gf_Works_dropRelation_b0 at h
  refine lv_iload_n hx hb gd_Works_dropRelation_0 rfl (lv_at hl 1 rfl) ?_
  refine lv_iconst (v := 4) hx hb gd_Works_dropRelation_1 (by decide) ?_
  refine lv_imul hx hb gd_Works_dropRelation_2 ?_
  refine lv_topi (fun a1 e2 => ?_)
  have h := gf_nm_ok e2 h
  refine lv_istore_n (lv' := [(2, .int a1), (0, .ref (hs t0)), (1, .int x1)]) hx hb gd_Works_dropRelation_3 rfl hl (by decide) rfl (fun ls hl => ?_)
  refine lv_aload_n hx hb gd_Works_dropRelation_4 rfl (lv_at hl 1 rfl) ?_
  refine lv_dup hx hb gd_Works_dropRelation_5 rfl ?_
  refine gw_geti (k := 3) (ref := R_Works) C hW o_t0 (by decide) rfl gi_Works rfl (by decide) rfl rfl gk_112 gd_Works_dropRelation_6 ?_
  refine lv_iconst (v := 1) hx hb gd_Works_dropRelation_9 (by decide) ?_
  refine lv_isub hx hb gd_Works_dropRelation_10 ?_
  refine gw_puti (k := 3) (ref := R_Works) (fty := .int) C hW o_t0 (by decide) rfl gi_Works rfl (by decide) rfl rfl gk_112 tf_Works tf_Works_ok nm_Works rfl rfl rfl rfl gd_Works_dropRelation_11 (fun u3 H locs e4 hW => ?_)
  have h := gf_nm_ok e4 h
  refine lv_aload_n hx hb gd_Works_dropRelation_14 rfl (lv_at hl 1 rfl) ?_
  obtain ⟨q5, e6, h⟩ := gf_nn_ok h
  refine gw_getr (k := 1) (ty := 10) (ref := R_Works) C hW o_t0 (by decide) rfl gi_Works rfl (by decide) rfl rfl gk_113 gd_Works_dropRelation_15 e6 ?_
  have o_q5 := hW.ref (d := 10) o_t0 e6 rfl
  refine lv_iload_n hx hb gd_Works_dropRelation_18 rfl (lv_at hl 0 rfl) ?_
  refine lv_iconst (v := 4) hx hb gd_Works_dropRelation_19 (by decide) ?_
  refine lv_iadd hx hb gd_Works_dropRelation_20 ?_
  refine lv_aload_n hx hb gd_Works_dropRelation_21 rfl (lv_at hl 1 rfl) ?_
  obtain ⟨q7, e8, h⟩ := gf_nn_ok h
  refine gw_getr (k := 1) (ty := 10) (ref := R_Works) C hW o_t0 (by decide) rfl gi_Works rfl (by decide) rfl rfl gk_113 gd_Works_dropRelation_22 e8 ?_
  have o_q7 := hW.ref (d := 10) o_t0 e8 rfl
  refine lv_iload_n hx hb gd_Works_dropRelation_25 rfl (lv_at hl 0 rfl) ?_
  refine lv_aload_n hx hb gd_Works_dropRelation_26 rfl (lv_at hl 1 rfl) ?_
  refine gw_geti (k := 3) (ref := R_Works) C hW o_t0 (by decide) rfl gi_Works rfl (by decide) rfl rfl gk_112 gd_Works_dropRelation_27 ?_
  refine lv_iconst (v := 4) hx hb gd_Works_dropRelation_30 (by decide) ?_
  refine lv_imul hx hb gd_Works_dropRelation_31 ?_
  refine lv_iload_n hx hb gd_Works_dropRelation_32 rfl (lv_at hl 0 rfl) ?_
  refine lv_isub hx hb gd_Works_dropRelation_33 ?_
  obtain ⟨g9, h⟩ := gf_if_ok h
  refine gw_copy C hW hl.1 gk_115 gk_30 gk_31 gk_32 o_q5 o_q7 g9 (Nat.le_of_ble_eq_true rfl) (Nat.le_of_ble_eq_true rfl) gd_Works_dropRelation_34 (fun u10 H locs e11 hW => ?_)
  have h := gf_nm_ok e11 h
  obtain rfl := Option.some.inj h
  exact gw_vret C hW hr hk gd_Works_dropRelation_37

set_option maxRecDepth 20000 in
theorem gc_Works_dropRelation (l : Launch) {D : va_G} {cA : Nat → ClassId} {hs : Nat → Nat} {z : gw_Sh} (F : Nat) {u : gw_St} {r0 : gw_St} {t0 : Nat} {x1 : Int32} (o_t0 : gw_ok z t0 2) (h : gf_Works_dropRelation F z u t0 x1 = some r0) (sz : Nat) : gw_Mv l gy_Works_dropRelation gb_Works_dropRelation 3 none gr_Works_dropRelation [.ref (hs t0), .int x1] D cA hs z u sz r0 := by
  refine gw_enter (by decide) (Nat.le_of_ble_eq_true rfl) ?_
  intro p e s m below meth c ls hsz C hW hr hk _ hl
  subst hsz
  exact gx_Works_dropRelation_b0 F C hr hk u t0 x1 o_t0 hW (lv_sub hl [0, 1] rfl) h
-- GearDesk$Works.part(II)I
def gy_Works_part : MethodName := ⟨R_Works, "part", "(II)I"⟩
abbrev gb_Works_part : ByteArray := prog_9_method_5_code
theorem gk_117 : Cond.code gy_Works_part gb_Works_part 3 (some .int) ∈ gt_T := gt_m5 (List.mem_of_getElem? (i := 22) rfl) rfl
def gr_Works_part : Room := gw_rm 1 64
theorem gm_Works_part : gw_Mth gy_Works_part gb_Works_part 3 (some .int) 2 := ⟨gk_117, gk_110, ⟨by decide +kernel, by decide +kernel⟩, by decide +kernel⟩
theorem gd_Works_part_0 : decode gb_Works_part 0 = .ok (.aload_n 0, 1) := by decide +kernel
theorem gd_Works_part_1 : decode gb_Works_part 1 = .ok (.getfield 15, 3) := by decide +kernel
theorem gd_Works_part_4 : decode gb_Works_part 4 = .ok (.iload_n 1, 1) := by decide +kernel
theorem gd_Works_part_5 : decode gb_Works_part 5 = .ok (.iconst 4, 1) := by decide +kernel
theorem gd_Works_part_6 : decode gb_Works_part 6 = .ok (.imul, 1) := by decide +kernel
theorem gd_Works_part_7 : decode gb_Works_part 7 = .ok (.iload_n 2, 1) := by decide +kernel
theorem gd_Works_part_8 : decode gb_Works_part 8 = .ok (.iadd, 1) := by decide +kernel
theorem gd_Works_part_9 : decode gb_Works_part 9 = .ok (.iaload, 1) := by decide +kernel
theorem gd_Works_part_10 : decode gb_Works_part 10 = .ok (.ireturn, 1) := by decide +kernel
def gf_Works_part_b0 (F : Nat) (z : gw_Sh)  (u : gw_St) (t0 : Nat) (x1 : Int32) (x2 : Int32) : Option (Int32 × gw_St) :=
  gf_nn (u.2.2 t0 1) fun q1 => if (((x1 * (4 : Int32)) + x2) < 0 ∨ z.2.2 q1 ≤ (((x1 * (4 : Int32)) + x2)).toNatClampNeg) then none else some ((u.1 q1 (((x1 * (4 : Int32)) + x2)).toNatClampNeg), u)
def gf_Works_part (F : Nat) (z : gw_Sh) (u : gw_St) (t0 : Nat) (x1 : Int32) (x2 : Int32) : Option (Int32 × gw_St) := gf_Works_part_b0 F z  u t0 x1 x2
set_option maxHeartbeats 4000000 in
set_option maxRecDepth 20000 in
theorem gx_Works_part_b0 {p : Program} {l : Launch} {e : Env} {s : State} {m : MethodId} {args : Array Value} {below : List Frame} {meth : Method} {c : Code} {D : va_G} {cA : Nat → ClassId} {hs : Nat → Nat} {z : gw_Sh} (F : Nat) {r0 : (Int32 × gw_St)} (C : gw_Cx p s m args c gb_Works_part 3 R_Works D cA) (hr : meth.sig.returnType = (some .int)) (hk : meth.locks = false) (u : gw_St) (t0 : Nat) (x1 : Int32) (x2 : Int32) (o_t0 : gw_ok z t0 2) {H : Heap} {locs : List Loc} {ls : Array Slot} (hW : gw_Wx D cA hs z s u H locs) (hl : lv_has ls 3 [(0, .ref (hs t0)), (1, .int x1), (2, .int x2)]) (h : gf_Works_part_b0 F z   u t0 x1 x2 = some r0) : gw_Gi p l e gr_Works_part s m args below meth c D cA hs z r0 H locs ls 0 [] := by
  obtain ⟨hx, hb, hml, hown, hts, hK⟩ := id C
  unfold gf_Works_part_b0 at h
  refine lv_aload_n hx hb gd_Works_part_0 rfl (lv_at hl 0 rfl) ?_
  obtain ⟨q1, e2, h⟩ := gf_nn_ok h
  refine gw_getr (k := 1) (ty := 10) (ref := R_Works) C hW o_t0 (by decide) rfl gi_Works rfl (by decide) rfl rfl gk_113 gd_Works_part_1 e2 ?_
  have o_q1 := hW.ref (d := 10) o_t0 e2 rfl
  refine lv_iload_n hx hb gd_Works_part_4 rfl (lv_at hl 1 rfl) ?_
  refine lv_iconst (v := 4) hx hb gd_Works_part_5 (by decide) ?_
  refine lv_imul hx hb gd_Works_part_6 ?_
  refine lv_iload_n hx hb gd_Works_part_7 rfl (lv_at hl 2 rfl) ?_
  refine lv_iadd hx hb gd_Works_part_8 ?_
  obtain ⟨g3, h⟩ := gf_if_ok h
  refine gw_iald C hW o_q1 g3 gd_Works_part_9 ?_
  obtain rfl := Option.some.inj h
  exact gw_iret C hW hr hk gd_Works_part_10

set_option maxRecDepth 20000 in
theorem gc_Works_part (l : Launch) {D : va_G} {cA : Nat → ClassId} {hs : Nat → Nat} {z : gw_Sh} (F : Nat) {u : gw_St} {r0 : (Int32 × gw_St)} {t0 : Nat} {x1 : Int32} {x2 : Int32} (o_t0 : gw_ok z t0 2) (h : gf_Works_part F z u t0 x1 x2 = some r0) (sz : Nat) : gw_Mi l gy_Works_part gb_Works_part 3 (some .int) gr_Works_part [.ref (hs t0), .int x1, .int x2] D cA hs z u sz r0 := by
  refine gw_enter (by decide) (Nat.le_of_ble_eq_true rfl) ?_
  intro p e s m below meth c ls hsz C hW hr hk _ hl
  subst hsz
  exact gx_Works_part_b0 F C hr hk u t0 x1 x2 o_t0 hW (lv_sub hl [0, 1, 2] rfl) h
-- GearDesk$Works.lowestGear(I)I
theorem gk_118 : Cond.methodLink R_Works 34 gy_Works_part ∈ gt_T := gt_m5 (List.mem_of_getElem? (i := 138) rfl) rfl
theorem gk_119 : Cond.instanceMethod gy_Works_part ∈ gt_T := gt_m5 (List.mem_of_getElem? (i := 20) rfl) rfl
theorem gk_120 : Cond.selects R_Works gy_Works_part gy_Works_part ∈ gt_T := gt_m5 (List.mem_of_getElem? (i := 21) rfl) rfl
theorem gk_121 : Cond.methodLink R_Works 38 Lib.Math.min.name ∈ gt_T := gt_m5 (List.mem_of_getElem? (i := 139) rfl) rfl
theorem gk_122 : Cond.static Lib.Math.min.name ∈ gt_T := gt_m3 (List.mem_of_getElem? (i := 118) rfl) rfl
theorem gk_123 : Cond.code Lib.Math.min.name Lib.Math.min.code 2 (some .int) ∈ gt_T := gt_m3 (List.mem_of_getElem? (i := 119) rfl) rfl
def gy_Works_lowestGear : MethodName := ⟨R_Works, "lowestGear", "(I)I"⟩
abbrev gb_Works_lowestGear : ByteArray := prog_9_method_6_code
theorem gk_124 : Cond.code gy_Works_lowestGear gb_Works_lowestGear 4 (some .int) ∈ gt_T := gt_m5 (List.mem_of_getElem? (i := 137) rfl) rfl
def gr_Works_lowestGear : Room := gw_rm 2 86
theorem gm_Works_lowestGear : gw_Mth gy_Works_lowestGear gb_Works_lowestGear 4 (some .int) 1 := ⟨gk_124, gk_110, ⟨by decide +kernel, by decide +kernel⟩, by decide +kernel⟩
theorem gd_Works_lowestGear_0 : decode gb_Works_lowestGear 0 = .ok (.aload_n 0, 1) := by decide +kernel
theorem gd_Works_lowestGear_1 : decode gb_Works_lowestGear 1 = .ok (.iload_n 1, 1) := by decide +kernel
theorem gd_Works_lowestGear_2 : decode gb_Works_lowestGear 2 = .ok (.iconst 1, 1) := by decide +kernel
theorem gd_Works_lowestGear_3 : decode gb_Works_lowestGear 3 = .ok (.invokevirtual 34, 3) := by decide +kernel
theorem gd_Works_lowestGear_6 : decode gb_Works_lowestGear 6 = .ok (.aload_n 0, 1) := by decide +kernel
theorem gd_Works_lowestGear_7 : decode gb_Works_lowestGear 7 = .ok (.iload_n 1, 1) := by decide +kernel
theorem gd_Works_lowestGear_8 : decode gb_Works_lowestGear 8 = .ok (.iconst 2, 1) := by decide +kernel
theorem gd_Works_lowestGear_9 : decode gb_Works_lowestGear 9 = .ok (.invokevirtual 34, 3) := by decide +kernel
theorem gd_Works_lowestGear_12 : decode gb_Works_lowestGear 12 = .ok (.invokestatic 38, 3) := by decide +kernel
theorem gd_Works_lowestGear_15 : decode gb_Works_lowestGear 15 = .ok (.istore_n 2, 1) := by decide +kernel
theorem gd_Works_lowestGear_16 : decode gb_Works_lowestGear 16 = .ok (.aload_n 0, 1) := by decide +kernel
theorem gd_Works_lowestGear_17 : decode gb_Works_lowestGear 17 = .ok (.iload_n 1, 1) := by decide +kernel
theorem gd_Works_lowestGear_18 : decode gb_Works_lowestGear 18 = .ok (.iconst 3, 1) := by decide +kernel
theorem gd_Works_lowestGear_19 : decode gb_Works_lowestGear 19 = .ok (.invokevirtual 34, 3) := by decide +kernel
theorem gd_Works_lowestGear_22 : decode gb_Works_lowestGear 22 = .ok (.istore_n 3, 1) := by decide +kernel
theorem gd_Works_lowestGear_23 : decode gb_Works_lowestGear 23 = .ok (.iload_n 3, 1) := by decide +kernel
theorem gd_Works_lowestGear_24 : decode gb_Works_lowestGear 24 = .ok (.iconst (-1), 1) := by decide +kernel
theorem gd_Works_lowestGear_25 : decode gb_Works_lowestGear 25 = .ok (.if_icmp .ne 7, 3) := by decide +kernel
theorem gd_Works_lowestGear_28 : decode gb_Works_lowestGear 28 = .ok (.iload_n 2, 1) := by decide +kernel
theorem gd_Works_lowestGear_29 : decode gb_Works_lowestGear 29 = .ok (.goto 8, 3) := by decide +kernel
theorem gd_Works_lowestGear_32 : decode gb_Works_lowestGear 32 = .ok (.iload_n 2, 1) := by decide +kernel
theorem gd_Works_lowestGear_33 : decode gb_Works_lowestGear 33 = .ok (.iload_n 3, 1) := by decide +kernel
theorem gd_Works_lowestGear_34 : decode gb_Works_lowestGear 34 = .ok (.invokestatic 38, 3) := by decide +kernel
theorem gd_Works_lowestGear_37 : decode gb_Works_lowestGear 37 = .ok (.ireturn, 1) := by decide +kernel
def gf_Works_lowestGear_b37 (F : Nat) (z : gw_Sh)  (u : gw_St) (sx0 : Int32) : Option (Int32 × gw_St) :=
  some (sx0, u)
def gf_Works_lowestGear_b0 (F : Nat) (z : gw_Sh)  (u : gw_St) (t0 : Nat) (x1 : Int32) : Option (Int32 × gw_St) :=
  gf_cl (gf_Works_part F z u t0 x1 (1 : Int32)) fun a3 u1 => gf_cl (gf_Works_part F z u1 t0 x1 (2 : Int32)) fun a6 u4 => gf_nm (if a6 < a3 then a6 else a3) fun a7 => gf_cl (gf_Works_part F z u4 t0 x1 (3 : Int32)) fun a11 u9 => if a11 = (-1 : Int32) then (gf_Works_lowestGear_b37 F z  u9 a7) else (gf_Works_lowestGear_b37 F z  u9 (if a11 < a7 then a11 else a7))
def gf_Works_lowestGear (F : Nat) (z : gw_Sh) (u : gw_St) (t0 : Nat) (x1 : Int32) : Option (Int32 × gw_St) := gf_Works_lowestGear_b0 F z  u t0 x1
set_option maxHeartbeats 4000000 in
set_option maxRecDepth 20000 in
theorem gx_Works_lowestGear_b37 {p : Program} {l : Launch} {e : Env} {s : State} {m : MethodId} {args : Array Value} {below : List Frame} {meth : Method} {c : Code} {D : va_G} {cA : Nat → ClassId} {hs : Nat → Nat} {z : gw_Sh} (F : Nat) {r0 : (Int32 × gw_St)} (C : gw_Cx p s m args c gb_Works_lowestGear 4 R_Works D cA) (hr : meth.sig.returnType = (some .int)) (hk : meth.locks = false) (u : gw_St) (sx0 : Int32)  {H : Heap} {locs : List Loc} {ls : Array Slot} (hW : gw_Wx D cA hs z s u H locs) (hl : lv_has ls 4 []) (h : gf_Works_lowestGear_b37 F z   u sx0 = some r0) : gw_Gi p l e gr_Works_lowestGear s m args below meth c D cA hs z r0 H locs ls 37 [.int sx0] := by
  obtain ⟨hx, hb, hml, hown, hts, hK⟩ := id C
  unfold gf_Works_lowestGear_b37 at h
  obtain rfl := Option.some.inj h
  exact gw_iret C hW hr hk gd_Works_lowestGear_37

set_option maxHeartbeats 4000000 in
set_option maxRecDepth 20000 in
theorem gx_Works_lowestGear_b0 {p : Program} {l : Launch} {e : Env} {s : State} {m : MethodId} {args : Array Value} {below : List Frame} {meth : Method} {c : Code} {D : va_G} {cA : Nat → ClassId} {hs : Nat → Nat} {z : gw_Sh} (F : Nat) {r0 : (Int32 × gw_St)} (C : gw_Cx p s m args c gb_Works_lowestGear 4 R_Works D cA) (hr : meth.sig.returnType = (some .int)) (hk : meth.locks = false) (u : gw_St) (t0 : Nat) (x1 : Int32) (o_t0 : gw_ok z t0 2) {H : Heap} {locs : List Loc} {ls : Array Slot} (hW : gw_Wx D cA hs z s u H locs) (hl : lv_has ls 4 [(0, .ref (hs t0)), (1, .int x1)]) (h : gf_Works_lowestGear_b0 F z   u t0 x1 = some r0) : gw_Gi p l e gr_Works_lowestGear s m args below meth c D cA hs z r0 H locs ls 0 [] := by
  obtain ⟨hx, hb, hml, hown, hts, hK⟩ := id C
  unfold gf_Works_lowestGear_b0 at h
  refine lv_aload_n hx hb gd_Works_lowestGear_0 rfl (lv_at hl 0 rfl) ?_
  refine lv_iload_n hx hb gd_Works_lowestGear_1 rfl (lv_at hl 1 rfl) ?_
  refine lv_iconst (v := 1) hx hb gd_Works_lowestGear_2 (by decide) ?_
  obtain ⟨a3, u1, d2, h⟩ := gf_cl_ok h
  refine gw_callVi (K := R_Works) (As := [.int x1, .int (1 : Int32)]) (rest := []) C hW (fun _ h => Or.inr h) hl.1 gm_Works_part (gc_Works_part l F o_t0 d2 _) gk_118 gk_119 gk_120 o_t0 (by decide) rfl rfl rfl ⟨Nat.le_of_ble_eq_true rfl, Nat.le_of_ble_eq_true rfl⟩ ⟨Nat.zero_le _, Nat.zero_le _⟩ rfl rfl (Nat.le_of_ble_eq_true rfl) gd_Works_lowestGear_3 (fun H locs hW => ?_)
  refine lv_aload_n hx hb gd_Works_lowestGear_6 rfl (lv_at hl 0 rfl) ?_
  refine lv_iload_n hx hb gd_Works_lowestGear_7 rfl (lv_at hl 1 rfl) ?_
  refine lv_iconst (v := 2) hx hb gd_Works_lowestGear_8 (by decide) ?_
  obtain ⟨a6, u4, d5, h⟩ := gf_cl_ok h
  refine gw_callVi (K := R_Works) (As := [.int x1, .int (2 : Int32)]) (rest := [.int a3]) C hW (fun _ h => Or.inr h) hl.1 gm_Works_part (gc_Works_part l F o_t0 d5 _) gk_118 gk_119 gk_120 o_t0 (by decide) rfl rfl rfl ⟨Nat.le_of_ble_eq_true rfl, Nat.le_of_ble_eq_true rfl⟩ ⟨Nat.zero_le _, Nat.zero_le _⟩ rfl rfl (Nat.le_of_ble_eq_true rfl) gd_Works_lowestGear_9 (fun H locs hW => ?_)
  refine va_mmin hx hb (hml.trans hl.1.symm) hown (hts _ gk_121) (hts _ gk_122) (hts _ gk_26) (hts _ gk_123) (Nat.le_of_ble_eq_true rfl) (Nat.le_of_ble_eq_true rfl) (Nat.zero_le _) (Nat.zero_le _) gd_Works_lowestGear_12 ?_
  refine lv_topi (fun a7 e8 => ?_)
  have h := gf_nm_ok e8 h
  refine lv_istore_n (lv' := [(2, .int a7), (0, .ref (hs t0)), (1, .int x1)]) hx hb gd_Works_lowestGear_15 rfl hl (by decide) rfl (fun ls hl => ?_)
  refine lv_aload_n hx hb gd_Works_lowestGear_16 rfl (lv_at hl 1 rfl) ?_
  refine lv_iload_n hx hb gd_Works_lowestGear_17 rfl (lv_at hl 2 rfl) ?_
  refine lv_iconst (v := 3) hx hb gd_Works_lowestGear_18 (by decide) ?_
  obtain ⟨a11, u9, d10, h⟩ := gf_cl_ok h
  refine gw_callVi (K := R_Works) (As := [.int x1, .int (3 : Int32)]) (rest := []) C hW (fun _ h => Or.inr h) hl.1 gm_Works_part (gc_Works_part l F o_t0 d10 _) gk_118 gk_119 gk_120 o_t0 (by decide) rfl rfl rfl ⟨Nat.le_of_ble_eq_true rfl, Nat.le_of_ble_eq_true rfl⟩ ⟨Nat.zero_le _, Nat.zero_le _⟩ rfl rfl (Nat.le_of_ble_eq_true rfl) gd_Works_lowestGear_19 (fun H locs hW => ?_)
  refine lv_istore_n (lv' := [(3, .int a11), (2, .int a7), (0, .ref (hs t0)), (1, .int x1)]) hx hb gd_Works_lowestGear_22 rfl hl (by decide) rfl (fun ls hl => ?_)
  refine lv_iload_n hx hb gd_Works_lowestGear_23 rfl (lv_at hl 0 rfl) ?_
  refine lv_iconst (v := (-1)) hx hb gd_Works_lowestGear_24 (by decide) ?_
  refine lv_icmp_ne (tgt := 32) hx hb gd_Works_lowestGear_25 (by decide) (fun c12 => ?_) (fun c12 => ?_)
  · have h := gf_f c12 h
    refine lv_iload_n hx hb gd_Works_lowestGear_32 rfl (lv_at hl 1 rfl) ?_
    refine lv_iload_n hx hb gd_Works_lowestGear_33 rfl (lv_at hl 0 rfl) ?_
    refine va_mmin hx hb (hml.trans hl.1.symm) hown (hts _ gk_121) (hts _ gk_122) (hts _ gk_26) (hts _ gk_123) (Nat.le_of_ble_eq_true rfl) (Nat.le_of_ble_eq_true rfl) (Nat.zero_le _) (Nat.zero_le _) gd_Works_lowestGear_34 ?_
    exact gx_Works_lowestGear_b37 F C hr hk  u9 (if a11 < a7 then a11 else a7)  hW (lv_sub hl [] rfl) h
  · have h := gf_t c12 h
    refine lv_iload_n hx hb gd_Works_lowestGear_28 rfl (lv_at hl 1 rfl) ?_
    refine lv_goto (tgt := 37) hx hb gd_Works_lowestGear_29 (by decide) ?_
    exact gx_Works_lowestGear_b37 F C hr hk  u9 a7  hW (lv_sub hl [] rfl) h

set_option maxRecDepth 20000 in
theorem gc_Works_lowestGear (l : Launch) {D : va_G} {cA : Nat → ClassId} {hs : Nat → Nat} {z : gw_Sh} (F : Nat) {u : gw_St} {r0 : (Int32 × gw_St)} {t0 : Nat} {x1 : Int32} (o_t0 : gw_ok z t0 2) (h : gf_Works_lowestGear F z u t0 x1 = some r0) (sz : Nat) : gw_Mi l gy_Works_lowestGear gb_Works_lowestGear 4 (some .int) gr_Works_lowestGear [.ref (hs t0), .int x1] D cA hs z u sz r0 := by
  refine gw_enter (by decide) (Nat.le_of_ble_eq_true rfl) ?_
  intro p e s m below meth c ls hsz C hW hr hk _ hl
  subst hsz
  exact gx_Works_lowestGear_b0 F C hr hk u t0 x1 o_t0 hW (lv_sub hl [0, 1] rfl) h
-- GearDesk$Works.empty()V
theorem gk_125 : Cond.fieldLink R_Works 18 R_Works "crank" "I" ∈ gt_T := gt_m1 (List.mem_of_getElem? (i := 117) rfl) rfl
def gy_Works_empty : MethodName := ⟨R_Works, "empty", "()V"⟩
abbrev gb_Works_empty : ByteArray := prog_9_method_7_code
theorem gk_126 : Cond.code gy_Works_empty gb_Works_empty 1 none ∈ gt_T := gt_m2 (List.mem_of_getElem? (i := 130) rfl) rfl
def gr_Works_empty : Room := gw_rm 1 64
theorem gm_Works_empty : gw_Mth gy_Works_empty gb_Works_empty 1 none 0 := ⟨gk_126, gk_110, ⟨by decide +kernel, by decide +kernel⟩, by decide +kernel⟩
theorem gd_Works_empty_0 : decode gb_Works_empty 0 = .ok (.aload_n 0, 1) := by decide +kernel
theorem gd_Works_empty_1 : decode gb_Works_empty 1 = .ok (.iconst 0, 1) := by decide +kernel
theorem gd_Works_empty_2 : decode gb_Works_empty 2 = .ok (.putfield 22, 3) := by decide +kernel
theorem gd_Works_empty_5 : decode gb_Works_empty 5 = .ok (.aload_n 0, 1) := by decide +kernel
theorem gd_Works_empty_6 : decode gb_Works_empty 6 = .ok (.iconst 0, 1) := by decide +kernel
theorem gd_Works_empty_7 : decode gb_Works_empty 7 = .ok (.putfield 25, 3) := by decide +kernel
theorem gd_Works_empty_10 : decode gb_Works_empty 10 = .ok (.aload_n 0, 1) := by decide +kernel
theorem gd_Works_empty_11 : decode gb_Works_empty 11 = .ok (.iconst (-1), 1) := by decide +kernel
theorem gd_Works_empty_12 : decode gb_Works_empty 12 = .ok (.putfield 18, 3) := by decide +kernel
theorem gd_Works_empty_15 : decode gb_Works_empty 15 = .ok (.return_, 1) := by decide +kernel
def gf_Works_empty_b0 (F : Nat) (z : gw_Sh)  (u : gw_St) (t0 : Nat) : Option gw_St :=
  gf_nm (gw_wi u t0 2 (0 : Int32)) fun u1 => gf_nm (gw_wi u1 t0 3 (0 : Int32)) fun u3 => gf_nm (gw_wi u3 t0 4 (-1 : Int32)) fun u5 => some u5
def gf_Works_empty (F : Nat) (z : gw_Sh) (u : gw_St) (t0 : Nat) : Option gw_St := gf_Works_empty_b0 F z  u t0
set_option maxHeartbeats 4000000 in
set_option maxRecDepth 20000 in
theorem gx_Works_empty_b0 {p : Program} {l : Launch} {e : Env} {s : State} {m : MethodId} {args : Array Value} {below : List Frame} {meth : Method} {c : Code} {D : va_G} {cA : Nat → ClassId} {hs : Nat → Nat} {z : gw_Sh} (F : Nat) {r0 : gw_St} (C : gw_Cx p s m args c gb_Works_empty 1 R_Works D cA) (hr : meth.sig.returnType = none) (hk : meth.locks = false) (u : gw_St) (t0 : Nat) (o_t0 : gw_ok z t0 2) {H : Heap} {locs : List Loc} {ls : Array Slot} (hW : gw_Wx D cA hs z s u H locs) (hl : lv_has ls 1 [(0, .ref (hs t0))]) (h : gf_Works_empty_b0 F z   u t0 = some r0) : gw_Gv p l e gr_Works_empty s m args below meth c D cA hs z r0 H locs ls 0 [] := by
  obtain ⟨hx, hb, hml, hown, hts, hK⟩ := id C
  unfold gf_Works_empty_b0 at h
  refine lv_aload_n hx hb gd_Works_empty_0 rfl (lv_at hl 0 rfl) ?_
  refine lv_iconst (v := 0) hx hb gd_Works_empty_1 (by decide) ?_
  refine gw_puti (k := 2) (ref := R_Works) (fty := .int) C hW o_t0 (by decide) rfl gi_Works rfl (by decide) rfl rfl gk_109 tf_Works tf_Works_ok nm_Works rfl rfl rfl rfl gd_Works_empty_2 (fun u1 H locs e2 hW => ?_)
  have h := gf_nm_ok e2 h
  refine lv_aload_n hx hb gd_Works_empty_5 rfl (lv_at hl 0 rfl) ?_
  refine lv_iconst (v := 0) hx hb gd_Works_empty_6 (by decide) ?_
  refine gw_puti (k := 3) (ref := R_Works) (fty := .int) C hW o_t0 (by decide) rfl gi_Works rfl (by decide) rfl rfl gk_112 tf_Works tf_Works_ok nm_Works rfl rfl rfl rfl gd_Works_empty_7 (fun u3 H locs e4 hW => ?_)
  have h := gf_nm_ok e4 h
  refine lv_aload_n hx hb gd_Works_empty_10 rfl (lv_at hl 0 rfl) ?_
  refine lv_iconst (v := (-1)) hx hb gd_Works_empty_11 (by decide) ?_
  refine gw_puti (k := 4) (ref := R_Works) (fty := .int) C hW o_t0 (by decide) rfl gi_Works rfl (by decide) rfl rfl gk_125 tf_Works tf_Works_ok nm_Works rfl rfl rfl rfl gd_Works_empty_12 (fun u5 H locs e6 hW => ?_)
  have h := gf_nm_ok e6 h
  obtain rfl := Option.some.inj h
  exact gw_vret C hW hr hk gd_Works_empty_15

set_option maxRecDepth 20000 in
theorem gc_Works_empty (l : Launch) {D : va_G} {cA : Nat → ClassId} {hs : Nat → Nat} {z : gw_Sh} (F : Nat) {u : gw_St} {r0 : gw_St} {t0 : Nat} (o_t0 : gw_ok z t0 2) (h : gf_Works_empty F z u t0 = some r0) (sz : Nat) : gw_Mv l gy_Works_empty gb_Works_empty 1 none gr_Works_empty [.ref (hs t0)] D cA hs z u sz r0 := by
  refine gw_enter (by decide) (Nat.le_of_ble_eq_true rfl) ?_
  intro p e s m below meth c ls hsz C hW hr hk _ hl
  subst hsz
  exact gx_Works_empty_b0 F C hr hk u t0 o_t0 hW (lv_sub hl [0] rfl) h
