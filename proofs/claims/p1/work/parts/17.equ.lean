-- GearDesk$Equations.addTerm(II)V
theorem gk_223 : Cond.fieldLink R_Equations 26 R_Equations "termGears" "[I" ∈ gt_T := gt_m1 (List.mem_of_getElem? (i := 219) rfl) rfl
theorem gk_224 : Cond.fieldLink R_Equations 137 R_Equations "terms" "I" ∈ gt_T := gt_m1 (List.mem_of_getElem? (i := 228) rfl) rfl
theorem gk_225 : Cond.fieldLink R_Equations 29 R_Equations "termFactors" "[I" ∈ gt_T := gt_m1 (List.mem_of_getElem? (i := 220) rfl) rfl
theorem gk_226 : Cond.initialized R_Equations ∈ gt_T := gt_m1 (List.mem_of_getElem? (i := 6) rfl) rfl
def gy_Equations_addTerm : MethodName := ⟨R_Equations, "addTerm", "(II)V"⟩
abbrev gb_Equations_addTerm : ByteArray := prog_3_method_5_code
theorem gk_227 : Cond.code gy_Equations_addTerm gb_Equations_addTerm 3 none ∈ gt_T := gt_m5 (List.mem_of_getElem? (i := 52) rfl) rfl
def gr_Equations_addTerm : Room := gw_rm 1 64
theorem gm_Equations_addTerm : gw_Mth gy_Equations_addTerm gb_Equations_addTerm 3 none 2 := ⟨gk_227, gk_226, ⟨by decide +kernel, by decide +kernel⟩, by decide +kernel⟩
theorem gd_Equations_addTerm_0 : decode gb_Equations_addTerm 0 = .ok (.aload_n 0, 1) := by decide +kernel
theorem gd_Equations_addTerm_1 : decode gb_Equations_addTerm 1 = .ok (.getfield 26, 3) := by decide +kernel
theorem gd_Equations_addTerm_4 : decode gb_Equations_addTerm 4 = .ok (.aload_n 0, 1) := by decide +kernel
theorem gd_Equations_addTerm_5 : decode gb_Equations_addTerm 5 = .ok (.getfield 137, 3) := by decide +kernel
theorem gd_Equations_addTerm_8 : decode gb_Equations_addTerm 8 = .ok (.iload_n 1, 1) := by decide +kernel
theorem gd_Equations_addTerm_9 : decode gb_Equations_addTerm 9 = .ok (.iastore, 1) := by decide +kernel
theorem gd_Equations_addTerm_10 : decode gb_Equations_addTerm 10 = .ok (.aload_n 0, 1) := by decide +kernel
theorem gd_Equations_addTerm_11 : decode gb_Equations_addTerm 11 = .ok (.getfield 29, 3) := by decide +kernel
theorem gd_Equations_addTerm_14 : decode gb_Equations_addTerm 14 = .ok (.aload_n 0, 1) := by decide +kernel
theorem gd_Equations_addTerm_15 : decode gb_Equations_addTerm 15 = .ok (.getfield 137, 3) := by decide +kernel
theorem gd_Equations_addTerm_18 : decode gb_Equations_addTerm 18 = .ok (.iload_n 2, 1) := by decide +kernel
theorem gd_Equations_addTerm_19 : decode gb_Equations_addTerm 19 = .ok (.iastore, 1) := by decide +kernel
theorem gd_Equations_addTerm_20 : decode gb_Equations_addTerm 20 = .ok (.aload_n 0, 1) := by decide +kernel
theorem gd_Equations_addTerm_21 : decode gb_Equations_addTerm 21 = .ok (.dup, 1) := by decide +kernel
theorem gd_Equations_addTerm_22 : decode gb_Equations_addTerm 22 = .ok (.getfield 137, 3) := by decide +kernel
theorem gd_Equations_addTerm_25 : decode gb_Equations_addTerm 25 = .ok (.iconst 1, 1) := by decide +kernel
theorem gd_Equations_addTerm_26 : decode gb_Equations_addTerm 26 = .ok (.iadd, 1) := by decide +kernel
theorem gd_Equations_addTerm_27 : decode gb_Equations_addTerm 27 = .ok (.putfield 137, 3) := by decide +kernel
theorem gd_Equations_addTerm_30 : decode gb_Equations_addTerm 30 = .ok (.return_, 1) := by decide +kernel
def gf_Equations_addTerm_b0 (F : Nat) (z : gw_Sh)  (u : gw_St) (t0 : Nat) (x1 : Int32) (x2 : Int32) : Option gw_St :=
  gf_nn (u.2.2 t0 4) fun q1 => if ((u.1 t0 13) < 0 ∨ z.2.2 q1 ≤ ((u.1 t0 13)).toNatClampNeg) then none else gf_nm (gw_wi u q1 ((u.1 t0 13)).toNatClampNeg x1) fun u4 => gf_nn (u4.2.2 t0 5) fun q6 => if ((u4.1 t0 13) < 0 ∨ z.2.2 q6 ≤ ((u4.1 t0 13)).toNatClampNeg) then none else gf_nm (gw_wi u4 q6 ((u4.1 t0 13)).toNatClampNeg x2) fun u9 => gf_nm (gw_wi u9 t0 13 ((u9.1 t0 13) + (1 : Int32))) fun u11 => some u11
def gf_Equations_addTerm (F : Nat) (z : gw_Sh) (u : gw_St) (t0 : Nat) (x1 : Int32) (x2 : Int32) : Option gw_St := gf_Equations_addTerm_b0 F z  u t0 x1 x2
set_option maxHeartbeats 4000000 in
set_option maxRecDepth 20000 in
theorem gx_Equations_addTerm_b0 {p : Program} {l : Launch} {e : Env} {s : State} {m : MethodId} {args : Array Value} {below : List Frame} {meth : Method} {c : Code} {D : va_G} {cA : Nat → ClassId} {hs : Nat → Nat} {z : gw_Sh} (F : Nat) {r0 : gw_St} (C : gw_Cx p s m args c gb_Equations_addTerm 3 R_Equations D cA) (hr : meth.sig.returnType = none) (hk : meth.locks = false) (u : gw_St) (t0 : Nat) (x1 : Int32) (x2 : Int32) (o_t0 : gw_ok z t0 4) {H : Heap} {locs : List Loc} {ls : Array Slot} (hW : gw_Wx D cA hs z s u H locs) (hl : lv_has ls 3 [(0, .ref (hs t0)), (1, .int x1), (2, .int x2)]) (h : gf_Equations_addTerm_b0 F z   u t0 x1 x2 = some r0) : gw_Gv p l e gr_Equations_addTerm s m args below meth c D cA hs z r0 H locs ls 0 [] := by
  obtain ⟨hx, hb, hml, hown, hts, hK⟩ := id C
  unfold gf_Equations_addTerm_b0 at h
  refine lv_aload_n hx hb gd_Equations_addTerm_0 rfl (lv_at hl 0 rfl) ?_
  obtain ⟨q1, e2, h⟩ := gf_nn_ok h
  refine gw_getr (k := 4) (ty := 10) (ref := R_Equations) C hW o_t0 (by decide) rfl gi_Equations rfl (by decide) rfl rfl gk_223 gd_Equations_addTerm_1 e2 ?_
  have o_q1 := hW.ref (d := 10) o_t0 e2 rfl
  refine lv_aload_n hx hb gd_Equations_addTerm_4 rfl (lv_at hl 0 rfl) ?_
  refine gw_geti (k := 13) (ref := R_Equations) C hW o_t0 (by decide) rfl gi_Equations rfl (by decide) rfl rfl gk_224 gd_Equations_addTerm_5 ?_
  refine lv_iload_n hx hb gd_Equations_addTerm_8 rfl (lv_at hl 1 rfl) ?_
  obtain ⟨g3, h⟩ := gf_if_ok h
  refine gw_iast C hW o_q1 g3 gd_Equations_addTerm_9 (fun u4 H locs e5 hW => ?_)
  have h := gf_nm_ok e5 h
  refine lv_aload_n hx hb gd_Equations_addTerm_10 rfl (lv_at hl 0 rfl) ?_
  obtain ⟨q6, e7, h⟩ := gf_nn_ok h
  refine gw_getr (k := 5) (ty := 10) (ref := R_Equations) C hW o_t0 (by decide) rfl gi_Equations rfl (by decide) rfl rfl gk_225 gd_Equations_addTerm_11 e7 ?_
  have o_q6 := hW.ref (d := 10) o_t0 e7 rfl
  refine lv_aload_n hx hb gd_Equations_addTerm_14 rfl (lv_at hl 0 rfl) ?_
  refine gw_geti (k := 13) (ref := R_Equations) C hW o_t0 (by decide) rfl gi_Equations rfl (by decide) rfl rfl gk_224 gd_Equations_addTerm_15 ?_
  refine lv_iload_n hx hb gd_Equations_addTerm_18 rfl (lv_at hl 2 rfl) ?_
  obtain ⟨g8, h⟩ := gf_if_ok h
  refine gw_iast C hW o_q6 g8 gd_Equations_addTerm_19 (fun u9 H locs e10 hW => ?_)
  have h := gf_nm_ok e10 h
  refine lv_aload_n hx hb gd_Equations_addTerm_20 rfl (lv_at hl 0 rfl) ?_
  refine lv_dup hx hb gd_Equations_addTerm_21 rfl ?_
  refine gw_geti (k := 13) (ref := R_Equations) C hW o_t0 (by decide) rfl gi_Equations rfl (by decide) rfl rfl gk_224 gd_Equations_addTerm_22 ?_
  refine lv_iconst (v := 1) hx hb gd_Equations_addTerm_25 (by decide) ?_
  refine lv_iadd hx hb gd_Equations_addTerm_26 ?_
  refine gw_puti (k := 13) (ref := R_Equations) (fty := .int) C hW o_t0 (by decide) rfl gi_Equations rfl (by decide) rfl rfl gk_224 tf_Equations tf_Equations_ok nm_Equations rfl rfl rfl rfl gd_Equations_addTerm_27 (fun u11 H locs e12 hW => ?_)
  have h := gf_nm_ok e12 h
  obtain rfl := Option.some.inj h
  exact gw_vret C hW hr hk gd_Equations_addTerm_30

set_option maxRecDepth 20000 in
theorem gc_Equations_addTerm (l : Launch) {D : va_G} {cA : Nat → ClassId} {hs : Nat → Nat} {z : gw_Sh} (F : Nat) {u : gw_St} {r0 : gw_St} {t0 : Nat} {x1 : Int32} {x2 : Int32} (o_t0 : gw_ok z t0 4) (h : gf_Equations_addTerm F z u t0 x1 x2 = some r0) (sz : Nat) : gw_Mv l gy_Equations_addTerm gb_Equations_addTerm 3 none gr_Equations_addTerm [.ref (hs t0), .int x1, .int x2] D cA hs z u sz r0 := by
  refine gw_enter (by decide) (Nat.le_of_ble_eq_true rfl) ?_
  intro p e s m below meth c ls hsz C hW hr hk _ hl
  subst hsz
  exact gx_Equations_addTerm_b0 F C hr hk u t0 x1 x2 o_t0 hW (lv_sub hl [0, 1, 2] rfl) h
-- GearDesk$Equations.setTerms(LGearDesk$Works;I)V
theorem gk_228 : Cond.methodLink R_Equations 140 gy_Works_part ∈ gt_T := gt_m5 (List.mem_of_getElem? (i := 48) rfl) rfl
theorem gk_229 : Cond.fieldLink R_Equations 143 R_Works "teeth" "[I" ∈ gt_T := gt_m1 (List.mem_of_getElem? (i := 108) rfl) rfl
theorem gk_230 : Cond.methodLink R_Equations 146 gy_Equations_addTerm ∈ gt_T := gt_m5 (List.mem_of_getElem? (i := 49) rfl) rfl
theorem gk_231 : Cond.instanceMethod gy_Equations_addTerm ∈ gt_T := gt_m5 (List.mem_of_getElem? (i := 51) rfl) rfl
theorem gk_232 : Cond.selects R_Equations gy_Equations_addTerm gy_Equations_addTerm ∈ gt_T := gt_p2 (List.mem_of_getElem? (i := 4) rfl) rfl
def gy_Equations_setTerms : MethodName := ⟨R_Equations, "setTerms", "(LGearDesk$Works;I)V"⟩
abbrev gb_Equations_setTerms : ByteArray := prog_3_method_4_code
theorem gk_233 : Cond.code gy_Equations_setTerms gb_Equations_setTerms 7 none ∈ gt_T := gt_m5 (List.mem_of_getElem? (i := 47) rfl) rfl
def gr_Equations_setTerms : Room := gw_rm 2 86
theorem gm_Equations_setTerms : gw_Mth gy_Equations_setTerms gb_Equations_setTerms 7 none 2 := ⟨gk_233, gk_226, ⟨by decide +kernel, by decide +kernel⟩, by decide +kernel⟩
theorem gd_Equations_setTerms_0 : decode gb_Equations_setTerms 0 = .ok (.aload_n 0, 1) := by decide +kernel
theorem gd_Equations_setTerms_1 : decode gb_Equations_setTerms 1 = .ok (.iconst 0, 1) := by decide +kernel
theorem gd_Equations_setTerms_2 : decode gb_Equations_setTerms 2 = .ok (.putfield 137, 3) := by decide +kernel
theorem gd_Equations_setTerms_5 : decode gb_Equations_setTerms 5 = .ok (.aload_n 1, 1) := by decide +kernel
theorem gd_Equations_setTerms_6 : decode gb_Equations_setTerms 6 = .ok (.iload_n 2, 1) := by decide +kernel
theorem gd_Equations_setTerms_7 : decode gb_Equations_setTerms 7 = .ok (.iconst 1, 1) := by decide +kernel
theorem gd_Equations_setTerms_8 : decode gb_Equations_setTerms 8 = .ok (.invokevirtual 140, 3) := by decide +kernel
theorem gd_Equations_setTerms_11 : decode gb_Equations_setTerms 11 = .ok (.istore_n 3, 1) := by decide +kernel
theorem gd_Equations_setTerms_12 : decode gb_Equations_setTerms 12 = .ok (.aload_n 1, 1) := by decide +kernel
theorem gd_Equations_setTerms_13 : decode gb_Equations_setTerms 13 = .ok (.iload_n 2, 1) := by decide +kernel
theorem gd_Equations_setTerms_14 : decode gb_Equations_setTerms 14 = .ok (.iconst 2, 1) := by decide +kernel
theorem gd_Equations_setTerms_15 : decode gb_Equations_setTerms 15 = .ok (.invokevirtual 140, 3) := by decide +kernel
theorem gd_Equations_setTerms_18 : decode gb_Equations_setTerms 18 = .ok (.istore 4, 2) := by decide +kernel
theorem gd_Equations_setTerms_20 : decode gb_Equations_setTerms 20 = .ok (.aload_n 1, 1) := by decide +kernel
theorem gd_Equations_setTerms_21 : decode gb_Equations_setTerms 21 = .ok (.getfield 143, 3) := by decide +kernel
theorem gd_Equations_setTerms_24 : decode gb_Equations_setTerms 24 = .ok (.iload_n 3, 1) := by decide +kernel
theorem gd_Equations_setTerms_25 : decode gb_Equations_setTerms 25 = .ok (.iaload, 1) := by decide +kernel
theorem gd_Equations_setTerms_26 : decode gb_Equations_setTerms 26 = .ok (.istore 5, 2) := by decide +kernel
theorem gd_Equations_setTerms_28 : decode gb_Equations_setTerms 28 = .ok (.aload_n 1, 1) := by decide +kernel
theorem gd_Equations_setTerms_29 : decode gb_Equations_setTerms 29 = .ok (.getfield 143, 3) := by decide +kernel
theorem gd_Equations_setTerms_32 : decode gb_Equations_setTerms 32 = .ok (.iload 4, 2) := by decide +kernel
theorem gd_Equations_setTerms_34 : decode gb_Equations_setTerms 34 = .ok (.iaload, 1) := by decide +kernel
theorem gd_Equations_setTerms_35 : decode gb_Equations_setTerms 35 = .ok (.istore 6, 2) := by decide +kernel
theorem gd_Equations_setTerms_37 : decode gb_Equations_setTerms 37 = .ok (.aload_n 1, 1) := by decide +kernel
theorem gd_Equations_setTerms_38 : decode gb_Equations_setTerms 38 = .ok (.iload_n 2, 1) := by decide +kernel
theorem gd_Equations_setTerms_39 : decode gb_Equations_setTerms 39 = .ok (.iconst 0, 1) := by decide +kernel
theorem gd_Equations_setTerms_40 : decode gb_Equations_setTerms 40 = .ok (.invokevirtual 140, 3) := by decide +kernel
theorem gd_Equations_setTerms_43 : decode gb_Equations_setTerms 43 = .ok (.tableswitch 78 0 2 #[25, 43, 62], 25) := by decide +kernel
theorem gd_Equations_setTerms_68 : decode gb_Equations_setTerms 68 = .ok (.aload_n 0, 1) := by decide +kernel
theorem gd_Equations_setTerms_69 : decode gb_Equations_setTerms 69 = .ok (.iload_n 3, 1) := by decide +kernel
theorem gd_Equations_setTerms_70 : decode gb_Equations_setTerms 70 = .ok (.iload 5, 2) := by decide +kernel
theorem gd_Equations_setTerms_72 : decode gb_Equations_setTerms 72 = .ok (.invokevirtual 146, 3) := by decide +kernel
theorem gd_Equations_setTerms_75 : decode gb_Equations_setTerms 75 = .ok (.aload_n 0, 1) := by decide +kernel
theorem gd_Equations_setTerms_76 : decode gb_Equations_setTerms 76 = .ok (.iload 4, 2) := by decide +kernel
theorem gd_Equations_setTerms_78 : decode gb_Equations_setTerms 78 = .ok (.iload 6, 2) := by decide +kernel
theorem gd_Equations_setTerms_80 : decode gb_Equations_setTerms 80 = .ok (.invokevirtual 146, 3) := by decide +kernel
theorem gd_Equations_setTerms_83 : decode gb_Equations_setTerms 83 = .ok (.goto 69, 3) := by decide +kernel
theorem gd_Equations_setTerms_86 : decode gb_Equations_setTerms 86 = .ok (.aload_n 0, 1) := by decide +kernel
theorem gd_Equations_setTerms_87 : decode gb_Equations_setTerms 87 = .ok (.iload_n 3, 1) := by decide +kernel
theorem gd_Equations_setTerms_88 : decode gb_Equations_setTerms 88 = .ok (.iload 5, 2) := by decide +kernel
theorem gd_Equations_setTerms_90 : decode gb_Equations_setTerms 90 = .ok (.invokevirtual 146, 3) := by decide +kernel
theorem gd_Equations_setTerms_93 : decode gb_Equations_setTerms 93 = .ok (.aload_n 0, 1) := by decide +kernel
theorem gd_Equations_setTerms_94 : decode gb_Equations_setTerms 94 = .ok (.iload 4, 2) := by decide +kernel
theorem gd_Equations_setTerms_96 : decode gb_Equations_setTerms 96 = .ok (.iload 6, 2) := by decide +kernel
theorem gd_Equations_setTerms_98 : decode gb_Equations_setTerms 98 = .ok (.ineg, 1) := by decide +kernel
theorem gd_Equations_setTerms_99 : decode gb_Equations_setTerms 99 = .ok (.invokevirtual 146, 3) := by decide +kernel
theorem gd_Equations_setTerms_102 : decode gb_Equations_setTerms 102 = .ok (.goto 50, 3) := by decide +kernel
theorem gd_Equations_setTerms_105 : decode gb_Equations_setTerms 105 = .ok (.aload_n 0, 1) := by decide +kernel
theorem gd_Equations_setTerms_106 : decode gb_Equations_setTerms 106 = .ok (.iload_n 3, 1) := by decide +kernel
theorem gd_Equations_setTerms_107 : decode gb_Equations_setTerms 107 = .ok (.iconst 1, 1) := by decide +kernel
theorem gd_Equations_setTerms_108 : decode gb_Equations_setTerms 108 = .ok (.invokevirtual 146, 3) := by decide +kernel
theorem gd_Equations_setTerms_111 : decode gb_Equations_setTerms 111 = .ok (.aload_n 0, 1) := by decide +kernel
theorem gd_Equations_setTerms_112 : decode gb_Equations_setTerms 112 = .ok (.iload 4, 2) := by decide +kernel
theorem gd_Equations_setTerms_114 : decode gb_Equations_setTerms 114 = .ok (.iconst (-1), 1) := by decide +kernel
theorem gd_Equations_setTerms_115 : decode gb_Equations_setTerms 115 = .ok (.invokevirtual 146, 3) := by decide +kernel
theorem gd_Equations_setTerms_118 : decode gb_Equations_setTerms 118 = .ok (.goto 34, 3) := by decide +kernel
theorem gd_Equations_setTerms_121 : decode gb_Equations_setTerms 121 = .ok (.aload_n 0, 1) := by decide +kernel
theorem gd_Equations_setTerms_122 : decode gb_Equations_setTerms 122 = .ok (.iload_n 3, 1) := by decide +kernel
theorem gd_Equations_setTerms_123 : decode gb_Equations_setTerms 123 = .ok (.iload 5, 2) := by decide +kernel
theorem gd_Equations_setTerms_125 : decode gb_Equations_setTerms 125 = .ok (.invokevirtual 146, 3) := by decide +kernel
theorem gd_Equations_setTerms_128 : decode gb_Equations_setTerms 128 = .ok (.aload_n 0, 1) := by decide +kernel
theorem gd_Equations_setTerms_129 : decode gb_Equations_setTerms 129 = .ok (.iload 4, 2) := by decide +kernel
theorem gd_Equations_setTerms_131 : decode gb_Equations_setTerms 131 = .ok (.iload 6, 2) := by decide +kernel
theorem gd_Equations_setTerms_133 : decode gb_Equations_setTerms 133 = .ok (.invokevirtual 146, 3) := by decide +kernel
theorem gd_Equations_setTerms_136 : decode gb_Equations_setTerms 136 = .ok (.aload_n 0, 1) := by decide +kernel
theorem gd_Equations_setTerms_137 : decode gb_Equations_setTerms 137 = .ok (.aload_n 1, 1) := by decide +kernel
theorem gd_Equations_setTerms_138 : decode gb_Equations_setTerms 138 = .ok (.iload_n 2, 1) := by decide +kernel
theorem gd_Equations_setTerms_139 : decode gb_Equations_setTerms 139 = .ok (.iconst 3, 1) := by decide +kernel
theorem gd_Equations_setTerms_140 : decode gb_Equations_setTerms 140 = .ok (.invokevirtual 140, 3) := by decide +kernel
theorem gd_Equations_setTerms_143 : decode gb_Equations_setTerms 143 = .ok (.iload 5, 2) := by decide +kernel
theorem gd_Equations_setTerms_145 : decode gb_Equations_setTerms 145 = .ok (.ineg, 1) := by decide +kernel
theorem gd_Equations_setTerms_146 : decode gb_Equations_setTerms 146 = .ok (.iload 6, 2) := by decide +kernel
theorem gd_Equations_setTerms_148 : decode gb_Equations_setTerms 148 = .ok (.isub, 1) := by decide +kernel
theorem gd_Equations_setTerms_149 : decode gb_Equations_setTerms 149 = .ok (.invokevirtual 146, 3) := by decide +kernel
theorem gd_Equations_setTerms_152 : decode gb_Equations_setTerms 152 = .ok (.return_, 1) := by decide +kernel
def gf_Equations_setTerms_b152 (F : Nat) (z : gw_Sh)  (u : gw_St)  : Option gw_St :=
  some u
def gf_Equations_setTerms_b0 (F : Nat) (z : gw_Sh)  (u : gw_St) (t0 : Nat) (t1 : Nat) (x2 : Int32) : Option gw_St :=
  gf_nm (gw_wi u t0 13 (0 : Int32)) fun u1 => gf_cl (gf_Works_part F z u1 t1 x2 (1 : Int32)) fun a5 u3 => gf_cl (gf_Works_part F z u3 t1 x2 (2 : Int32)) fun a8 u6 => gf_nn (u6.2.2 t1 0) fun q9 => if (a5 < 0 ∨ z.2.2 q9 ≤ (a5).toNatClampNeg) then none else gf_nm (u6.1 q9 (a5).toNatClampNeg) fun a12 => gf_nn (u6.2.2 t1 0) fun q14 => if (a8 < 0 ∨ z.2.2 q14 ≤ (a8).toNatClampNeg) then none else gf_nm (u6.1 q14 (a8).toNatClampNeg) fun a17 => gf_cl (gf_Works_part F z u6 t1 x2 (0 : Int32)) fun a21 u19 => if a21 = 0 then ((gf_Equations_addTerm F z u19 t0 a5 a12).bind fun u23 => (gf_Equations_addTerm F z u23 t0 a8 a17).bind fun u25 => gf_Equations_setTerms_b152 F z  u25 ) else (if a21 = 1 then ((gf_Equations_addTerm F z u19 t0 a5 a12).bind fun u28 => (gf_Equations_addTerm F z u28 t0 a8 (-a17)).bind fun u30 => gf_Equations_setTerms_b152 F z  u30 ) else (if a21 = 2 then ((gf_Equations_addTerm F z u19 t0 a5 (1 : Int32)).bind fun u33 => (gf_Equations_addTerm F z u33 t0 a8 (-1 : Int32)).bind fun u35 => gf_Equations_setTerms_b152 F z  u35 ) else ((gf_Equations_addTerm F z u19 t0 a5 a12).bind fun u37 => (gf_Equations_addTerm F z u37 t0 a8 a17).bind fun u39 => gf_cl (gf_Works_part F z u39 t1 x2 (3 : Int32)) fun a43 u41 => (gf_Equations_addTerm F z u41 t0 a43 ((-a12) - a17)).bind fun u44 => gf_Equations_setTerms_b152 F z  u44 )))
def gf_Equations_setTerms (F : Nat) (z : gw_Sh) (u : gw_St) (t0 : Nat) (t1 : Nat) (x2 : Int32) : Option gw_St := gf_Equations_setTerms_b0 F z  u t0 t1 x2
set_option maxHeartbeats 4000000 in
set_option maxRecDepth 20000 in
theorem gx_Equations_setTerms_b152 {p : Program} {l : Launch} {e : Env} {s : State} {m : MethodId} {args : Array Value} {below : List Frame} {meth : Method} {c : Code} {D : va_G} {cA : Nat → ClassId} {hs : Nat → Nat} {z : gw_Sh} (F : Nat) {r0 : gw_St} (C : gw_Cx p s m args c gb_Equations_setTerms 7 R_Equations D cA) (hr : meth.sig.returnType = none) (hk : meth.locks = false) (u : gw_St)   {H : Heap} {locs : List Loc} {ls : Array Slot} (hW : gw_Wx D cA hs z s u H locs) (hl : lv_has ls 7 []) (h : gf_Equations_setTerms_b152 F z   u  = some r0) : gw_Gv p l e gr_Equations_setTerms s m args below meth c D cA hs z r0 H locs ls 152 [] := by
  obtain ⟨hx, hb, hml, hown, hts, hK⟩ := id C
  unfold gf_Equations_setTerms_b152 at h
  obtain rfl := Option.some.inj h
  exact gw_vret C hW hr hk gd_Equations_setTerms_152

set_option maxHeartbeats 4000000 in
set_option maxRecDepth 20000 in
theorem gx_Equations_setTerms_b0 {p : Program} {l : Launch} {e : Env} {s : State} {m : MethodId} {args : Array Value} {below : List Frame} {meth : Method} {c : Code} {D : va_G} {cA : Nat → ClassId} {hs : Nat → Nat} {z : gw_Sh} (F : Nat) {r0 : gw_St} (C : gw_Cx p s m args c gb_Equations_setTerms 7 R_Equations D cA) (hr : meth.sig.returnType = none) (hk : meth.locks = false) (u : gw_St) (t0 : Nat) (t1 : Nat) (x2 : Int32) (o_t0 : gw_ok z t0 4) (o_t1 : gw_ok z t1 2) {H : Heap} {locs : List Loc} {ls : Array Slot} (hW : gw_Wx D cA hs z s u H locs) (hl : lv_has ls 7 [(0, .ref (hs t0)), (1, .ref (hs t1)), (2, .int x2)]) (h : gf_Equations_setTerms_b0 F z   u t0 t1 x2 = some r0) : gw_Gv p l e gr_Equations_setTerms s m args below meth c D cA hs z r0 H locs ls 0 [] := by
  obtain ⟨hx, hb, hml, hown, hts, hK⟩ := id C
  unfold gf_Equations_setTerms_b0 at h
  refine lv_aload_n hx hb gd_Equations_setTerms_0 rfl (lv_at hl 0 rfl) ?_
  refine lv_iconst (v := 0) hx hb gd_Equations_setTerms_1 (by decide) ?_
  refine gw_puti (k := 13) (ref := R_Equations) (fty := .int) C hW o_t0 (by decide) rfl gi_Equations rfl (by decide) rfl rfl gk_224 tf_Equations tf_Equations_ok nm_Equations rfl rfl rfl rfl gd_Equations_setTerms_2 (fun u1 H locs e2 hW => ?_)
  have h := gf_nm_ok e2 h
  refine lv_aload_n hx hb gd_Equations_setTerms_5 rfl (lv_at hl 1 rfl) ?_
  refine lv_iload_n hx hb gd_Equations_setTerms_6 rfl (lv_at hl 2 rfl) ?_
  refine lv_iconst (v := 1) hx hb gd_Equations_setTerms_7 (by decide) ?_
  obtain ⟨a5, u3, d4, h⟩ := gf_cl_ok h
  refine gw_callVi (K := R_Works) (As := [.int x2, .int (1 : Int32)]) (rest := []) C hW (fun _ h => Or.inr h) hl.1 gm_Works_part (gc_Works_part l F o_t1 d4 _) gk_228 gk_119 gk_120 o_t1 (by decide) rfl rfl rfl ⟨Nat.le_of_ble_eq_true rfl, Nat.le_of_ble_eq_true rfl⟩ ⟨Nat.zero_le _, Nat.zero_le _⟩ rfl rfl (Nat.le_of_ble_eq_true rfl) gd_Equations_setTerms_8 (fun H locs hW => ?_)
  refine lv_istore_n (lv' := [(3, .int a5), (0, .ref (hs t0)), (1, .ref (hs t1)), (2, .int x2)]) hx hb gd_Equations_setTerms_11 rfl hl (by decide) rfl (fun ls hl => ?_)
  refine lv_aload_n hx hb gd_Equations_setTerms_12 rfl (lv_at hl 2 rfl) ?_
  refine lv_iload_n hx hb gd_Equations_setTerms_13 rfl (lv_at hl 3 rfl) ?_
  refine lv_iconst (v := 2) hx hb gd_Equations_setTerms_14 (by decide) ?_
  obtain ⟨a8, u6, d7, h⟩ := gf_cl_ok h
  refine gw_callVi (K := R_Works) (As := [.int x2, .int (2 : Int32)]) (rest := []) C hW (fun _ h => Or.inr h) hl.1 gm_Works_part (gc_Works_part l F o_t1 d7 _) gk_228 gk_119 gk_120 o_t1 (by decide) rfl rfl rfl ⟨Nat.le_of_ble_eq_true rfl, Nat.le_of_ble_eq_true rfl⟩ ⟨Nat.zero_le _, Nat.zero_le _⟩ rfl rfl (Nat.le_of_ble_eq_true rfl) gd_Equations_setTerms_15 (fun H locs hW => ?_)
  refine lv_istore (lv' := [(4, .int a8), (3, .int a5), (0, .ref (hs t0)), (1, .ref (hs t1)), (2, .int x2)]) hx hb gd_Equations_setTerms_18 hl (by decide) rfl (fun ls hl => ?_)
  refine lv_aload_n hx hb gd_Equations_setTerms_20 rfl (lv_at hl 3 rfl) ?_
  obtain ⟨q9, e10, h⟩ := gf_nn_ok h
  refine gw_getr (k := 0) (ty := 10) (ref := R_Works) C hW o_t1 (by decide) rfl gi_Works rfl (by decide) rfl rfl gk_229 gd_Equations_setTerms_21 e10 ?_
  have o_q9 := hW.ref (d := 10) o_t1 e10 rfl
  refine lv_iload_n hx hb gd_Equations_setTerms_24 rfl (lv_at hl 1 rfl) ?_
  obtain ⟨g11, h⟩ := gf_if_ok h
  refine gw_iald C hW o_q9 g11 gd_Equations_setTerms_25 ?_
  refine lv_topi (fun a12 e13 => ?_)
  have h := gf_nm_ok e13 h
  refine lv_istore (lv' := [(5, .int a12), (4, .int a8), (3, .int a5), (0, .ref (hs t0)), (1, .ref (hs t1)), (2, .int x2)]) hx hb gd_Equations_setTerms_26 hl (by decide) rfl (fun ls hl => ?_)
  refine lv_aload_n hx hb gd_Equations_setTerms_28 rfl (lv_at hl 4 rfl) ?_
  obtain ⟨q14, e15, h⟩ := gf_nn_ok h
  refine gw_getr (k := 0) (ty := 10) (ref := R_Works) C hW o_t1 (by decide) rfl gi_Works rfl (by decide) rfl rfl gk_229 gd_Equations_setTerms_29 e15 ?_
  have o_q14 := hW.ref (d := 10) o_t1 e15 rfl
  refine lv_iload hx hb gd_Equations_setTerms_32 (lv_at hl 1 rfl) ?_
  obtain ⟨g16, h⟩ := gf_if_ok h
  refine gw_iald C hW o_q14 g16 gd_Equations_setTerms_34 ?_
  refine lv_topi (fun a17 e18 => ?_)
  have h := gf_nm_ok e18 h
  refine lv_istore (lv' := [(6, .int a17), (5, .int a12), (4, .int a8), (3, .int a5), (0, .ref (hs t0)), (1, .ref (hs t1)), (2, .int x2)]) hx hb gd_Equations_setTerms_35 hl (by decide) rfl (fun ls hl => ?_)
  refine lv_aload_n hx hb gd_Equations_setTerms_37 rfl (lv_at hl 5 rfl) ?_
  refine lv_iload_n hx hb gd_Equations_setTerms_38 rfl (lv_at hl 6 rfl) ?_
  refine lv_iconst (v := 0) hx hb gd_Equations_setTerms_39 (by decide) ?_
  obtain ⟨a21, u19, d20, h⟩ := gf_cl_ok h
  refine gw_callVi (K := R_Works) (As := [.int x2, .int (0 : Int32)]) (rest := []) C hW (fun _ h => Or.inr h) hl.1 gm_Works_part (gc_Works_part l F o_t1 d20 _) gk_228 gk_119 gk_120 o_t1 (by decide) rfl rfl rfl ⟨Nat.le_of_ble_eq_true rfl, Nat.le_of_ble_eq_true rfl⟩ ⟨Nat.zero_le _, Nat.zero_le _⟩ rfl rfl (Nat.le_of_ble_eq_true rfl) gd_Equations_setTerms_40 (fun H locs hW => ?_)
  by_cases c22 : a21 = 0
  · have h := gf_t c22 h
    refine lv_tableIn (x := a21) (off := 25) (tgt := 68) hx hb gd_Equations_setTerms_43 (by rw [c22]; decide) (by rw [c22]; decide) (by rw [c22]; rfl) (by decide) ?_
    refine lv_aload_n hx hb gd_Equations_setTerms_68 rfl (lv_at hl 4 rfl) ?_
    refine lv_iload_n hx hb gd_Equations_setTerms_69 rfl (lv_at hl 3 rfl) ?_
    refine lv_iload hx hb gd_Equations_setTerms_70 (lv_at hl 1 rfl) ?_
    obtain ⟨u23, d24, h⟩ := gf_bd_ok h
    refine gw_callVv (K := R_Equations) (As := [.int a5, .int a12]) (rest := []) C hW (fun _ h => Or.inr h) hl.1 gm_Equations_addTerm (gc_Equations_addTerm l F o_t0 d24 _) gk_230 gk_231 gk_232 o_t0 (by decide) rfl rfl rfl ⟨Nat.le_of_ble_eq_true rfl, Nat.le_of_ble_eq_true rfl⟩ ⟨Nat.zero_le _, Nat.zero_le _⟩ rfl rfl (Nat.le_of_ble_eq_true rfl) gd_Equations_setTerms_72 (fun H locs hW => ?_)
    refine lv_aload_n hx hb gd_Equations_setTerms_75 rfl (lv_at hl 4 rfl) ?_
    refine lv_iload hx hb gd_Equations_setTerms_76 (lv_at hl 2 rfl) ?_
    refine lv_iload hx hb gd_Equations_setTerms_78 (lv_at hl 0 rfl) ?_
    obtain ⟨u25, d26, h⟩ := gf_bd_ok h
    refine gw_callVv (K := R_Equations) (As := [.int a8, .int a17]) (rest := []) C hW (fun _ h => Or.inr h) hl.1 gm_Equations_addTerm (gc_Equations_addTerm l F o_t0 d26 _) gk_230 gk_231 gk_232 o_t0 (by decide) rfl rfl rfl ⟨Nat.le_of_ble_eq_true rfl, Nat.le_of_ble_eq_true rfl⟩ ⟨Nat.zero_le _, Nat.zero_le _⟩ rfl rfl (Nat.le_of_ble_eq_true rfl) gd_Equations_setTerms_80 (fun H locs hW => ?_)
    refine lv_goto (tgt := 152) hx hb gd_Equations_setTerms_83 (by decide) ?_
    exact gx_Equations_setTerms_b152 F C hr hk  u25   hW (lv_sub hl [] rfl) h
  · have h := gf_f c22 h
    by_cases c27 : a21 = 1
    · have h := gf_t c27 h
      refine lv_tableIn (x := a21) (off := 43) (tgt := 86) hx hb gd_Equations_setTerms_43 (by rw [c27]; decide) (by rw [c27]; decide) (by rw [c27]; rfl) (by decide) ?_
      refine lv_aload_n hx hb gd_Equations_setTerms_86 rfl (lv_at hl 4 rfl) ?_
      refine lv_iload_n hx hb gd_Equations_setTerms_87 rfl (lv_at hl 3 rfl) ?_
      refine lv_iload hx hb gd_Equations_setTerms_88 (lv_at hl 1 rfl) ?_
      obtain ⟨u28, d29, h⟩ := gf_bd_ok h
      refine gw_callVv (K := R_Equations) (As := [.int a5, .int a12]) (rest := []) C hW (fun _ h => Or.inr h) hl.1 gm_Equations_addTerm (gc_Equations_addTerm l F o_t0 d29 _) gk_230 gk_231 gk_232 o_t0 (by decide) rfl rfl rfl ⟨Nat.le_of_ble_eq_true rfl, Nat.le_of_ble_eq_true rfl⟩ ⟨Nat.zero_le _, Nat.zero_le _⟩ rfl rfl (Nat.le_of_ble_eq_true rfl) gd_Equations_setTerms_90 (fun H locs hW => ?_)
      refine lv_aload_n hx hb gd_Equations_setTerms_93 rfl (lv_at hl 4 rfl) ?_
      refine lv_iload hx hb gd_Equations_setTerms_94 (lv_at hl 2 rfl) ?_
      refine lv_iload hx hb gd_Equations_setTerms_96 (lv_at hl 0 rfl) ?_
      refine lv_ineg hx hb gd_Equations_setTerms_98 ?_
      obtain ⟨u30, d31, h⟩ := gf_bd_ok h
      refine gw_callVv (K := R_Equations) (As := [.int a8, .int (-a17)]) (rest := []) C hW (fun _ h => Or.inr h) hl.1 gm_Equations_addTerm (gc_Equations_addTerm l F o_t0 d31 _) gk_230 gk_231 gk_232 o_t0 (by decide) rfl rfl rfl ⟨Nat.le_of_ble_eq_true rfl, Nat.le_of_ble_eq_true rfl⟩ ⟨Nat.zero_le _, Nat.zero_le _⟩ rfl rfl (Nat.le_of_ble_eq_true rfl) gd_Equations_setTerms_99 (fun H locs hW => ?_)
      refine lv_goto (tgt := 152) hx hb gd_Equations_setTerms_102 (by decide) ?_
      exact gx_Equations_setTerms_b152 F C hr hk  u30   hW (lv_sub hl [] rfl) h
    · have h := gf_f c27 h
      by_cases c32 : a21 = 2
      · have h := gf_t c32 h
        refine lv_tableIn (x := a21) (off := 62) (tgt := 105) hx hb gd_Equations_setTerms_43 (by rw [c32]; decide) (by rw [c32]; decide) (by rw [c32]; rfl) (by decide) ?_
        refine lv_aload_n hx hb gd_Equations_setTerms_105 rfl (lv_at hl 4 rfl) ?_
        refine lv_iload_n hx hb gd_Equations_setTerms_106 rfl (lv_at hl 3 rfl) ?_
        refine lv_iconst (v := 1) hx hb gd_Equations_setTerms_107 (by decide) ?_
        obtain ⟨u33, d34, h⟩ := gf_bd_ok h
        refine gw_callVv (K := R_Equations) (As := [.int a5, .int (1 : Int32)]) (rest := []) C hW (fun _ h => Or.inr h) hl.1 gm_Equations_addTerm (gc_Equations_addTerm l F o_t0 d34 _) gk_230 gk_231 gk_232 o_t0 (by decide) rfl rfl rfl ⟨Nat.le_of_ble_eq_true rfl, Nat.le_of_ble_eq_true rfl⟩ ⟨Nat.zero_le _, Nat.zero_le _⟩ rfl rfl (Nat.le_of_ble_eq_true rfl) gd_Equations_setTerms_108 (fun H locs hW => ?_)
        refine lv_aload_n hx hb gd_Equations_setTerms_111 rfl (lv_at hl 4 rfl) ?_
        refine lv_iload hx hb gd_Equations_setTerms_112 (lv_at hl 2 rfl) ?_
        refine lv_iconst (v := (-1)) hx hb gd_Equations_setTerms_114 (by decide) ?_
        obtain ⟨u35, d36, h⟩ := gf_bd_ok h
        refine gw_callVv (K := R_Equations) (As := [.int a8, .int (-1 : Int32)]) (rest := []) C hW (fun _ h => Or.inr h) hl.1 gm_Equations_addTerm (gc_Equations_addTerm l F o_t0 d36 _) gk_230 gk_231 gk_232 o_t0 (by decide) rfl rfl rfl ⟨Nat.le_of_ble_eq_true rfl, Nat.le_of_ble_eq_true rfl⟩ ⟨Nat.zero_le _, Nat.zero_le _⟩ rfl rfl (Nat.le_of_ble_eq_true rfl) gd_Equations_setTerms_115 (fun H locs hW => ?_)
        refine lv_goto (tgt := 152) hx hb gd_Equations_setTerms_118 (by decide) ?_
        exact gx_Equations_setTerms_b152 F C hr hk  u35   hW (lv_sub hl [] rfl) h
      · have h := gf_f c32 h
        refine lv_tableOut (x := a21) (tgt := 121) hx hb gd_Equations_setTerms_43 (gw_swo (fun k k1 k2 => by rcases (show k = 0 ∨ k = 1 ∨ k = 2 by omega) with rfl | rfl | rfl <;> first | exact c22 | exact c27 | exact c32)) (by decide) ?_
        refine lv_aload_n hx hb gd_Equations_setTerms_121 rfl (lv_at hl 4 rfl) ?_
        refine lv_iload_n hx hb gd_Equations_setTerms_122 rfl (lv_at hl 3 rfl) ?_
        refine lv_iload hx hb gd_Equations_setTerms_123 (lv_at hl 1 rfl) ?_
        obtain ⟨u37, d38, h⟩ := gf_bd_ok h
        refine gw_callVv (K := R_Equations) (As := [.int a5, .int a12]) (rest := []) C hW (fun _ h => Or.inr h) hl.1 gm_Equations_addTerm (gc_Equations_addTerm l F o_t0 d38 _) gk_230 gk_231 gk_232 o_t0 (by decide) rfl rfl rfl ⟨Nat.le_of_ble_eq_true rfl, Nat.le_of_ble_eq_true rfl⟩ ⟨Nat.zero_le _, Nat.zero_le _⟩ rfl rfl (Nat.le_of_ble_eq_true rfl) gd_Equations_setTerms_125 (fun H locs hW => ?_)
        refine lv_aload_n hx hb gd_Equations_setTerms_128 rfl (lv_at hl 4 rfl) ?_
        refine lv_iload hx hb gd_Equations_setTerms_129 (lv_at hl 2 rfl) ?_
        refine lv_iload hx hb gd_Equations_setTerms_131 (lv_at hl 0 rfl) ?_
        obtain ⟨u39, d40, h⟩ := gf_bd_ok h
        refine gw_callVv (K := R_Equations) (As := [.int a8, .int a17]) (rest := []) C hW (fun _ h => Or.inr h) hl.1 gm_Equations_addTerm (gc_Equations_addTerm l F o_t0 d40 _) gk_230 gk_231 gk_232 o_t0 (by decide) rfl rfl rfl ⟨Nat.le_of_ble_eq_true rfl, Nat.le_of_ble_eq_true rfl⟩ ⟨Nat.zero_le _, Nat.zero_le _⟩ rfl rfl (Nat.le_of_ble_eq_true rfl) gd_Equations_setTerms_133 (fun H locs hW => ?_)
        refine lv_aload_n hx hb gd_Equations_setTerms_136 rfl (lv_at hl 4 rfl) ?_
        refine lv_aload_n hx hb gd_Equations_setTerms_137 rfl (lv_at hl 5 rfl) ?_
        refine lv_iload_n hx hb gd_Equations_setTerms_138 rfl (lv_at hl 6 rfl) ?_
        refine lv_iconst (v := 3) hx hb gd_Equations_setTerms_139 (by decide) ?_
        obtain ⟨a43, u41, d42, h⟩ := gf_cl_ok h
        refine gw_callVi (K := R_Works) (As := [.int x2, .int (3 : Int32)]) (rest := [.ref (hs t0)]) C hW (fun _ h => Or.inr h) hl.1 gm_Works_part (gc_Works_part l F o_t1 d42 _) gk_228 gk_119 gk_120 o_t1 (by decide) rfl rfl rfl ⟨Nat.le_of_ble_eq_true rfl, Nat.le_of_ble_eq_true rfl⟩ ⟨Nat.zero_le _, Nat.zero_le _⟩ rfl rfl (Nat.le_of_ble_eq_true rfl) gd_Equations_setTerms_140 (fun H locs hW => ?_)
        refine lv_iload hx hb gd_Equations_setTerms_143 (lv_at hl 1 rfl) ?_
        refine lv_ineg hx hb gd_Equations_setTerms_145 ?_
        refine lv_iload hx hb gd_Equations_setTerms_146 (lv_at hl 0 rfl) ?_
        refine lv_isub hx hb gd_Equations_setTerms_148 ?_
        obtain ⟨u44, d45, h⟩ := gf_bd_ok h
        refine gw_callVv (K := R_Equations) (As := [.int a43, .int ((-a12) - a17)]) (rest := []) C hW (fun _ h => Or.inr h) hl.1 gm_Equations_addTerm (gc_Equations_addTerm l F o_t0 d45 _) gk_230 gk_231 gk_232 o_t0 (by decide) rfl rfl rfl ⟨Nat.le_of_ble_eq_true rfl, Nat.le_of_ble_eq_true rfl⟩ ⟨Nat.zero_le _, Nat.zero_le _⟩ rfl rfl (Nat.le_of_ble_eq_true rfl) gd_Equations_setTerms_149 (fun H locs hW => ?_)
        exact gx_Equations_setTerms_b152 F C hr hk  u44   hW (lv_sub hl [] rfl) h

set_option maxRecDepth 20000 in
theorem gc_Equations_setTerms (l : Launch) {D : va_G} {cA : Nat → ClassId} {hs : Nat → Nat} {z : gw_Sh} (F : Nat) {u : gw_St} {r0 : gw_St} {t0 : Nat} {t1 : Nat} {x2 : Int32} (o_t0 : gw_ok z t0 4) (o_t1 : gw_ok z t1 2) (h : gf_Equations_setTerms F z u t0 t1 x2 = some r0) (sz : Nat) : gw_Mv l gy_Equations_setTerms gb_Equations_setTerms 7 none gr_Equations_setTerms [.ref (hs t0), .ref (hs t1), .int x2] D cA hs z u sz r0 := by
  refine gw_enter (by decide) (Nat.le_of_ble_eq_true rfl) ?_
  intro p e s m below meth c ls hsz C hW hr hk _ hl
  subst hsz
  exact gx_Equations_setTerms_b0 F C hr hk u t0 t1 x2 o_t0 o_t1 hW (lv_sub hl [0, 1, 2] rfl) h
-- GearDesk$Equations.at(II)I
def gy_Equations_at : MethodName := ⟨R_Equations, "at", "(II)I"⟩
abbrev gb_Equations_at : ByteArray := prog_3_method_12_code
theorem gk_234 : Cond.code gy_Equations_at gb_Equations_at 2 (some .int) ∈ gt_T := gt_m5 (List.mem_of_getElem? (i := 80) rfl) rfl
def gr_Equations_at : Room := gw_rm 1 64
theorem gm_Equations_at : gw_Mth gy_Equations_at gb_Equations_at 2 (some .int) 2 := ⟨gk_234, gk_226, ⟨by decide +kernel, by decide +kernel⟩, by decide +kernel⟩
theorem gd_Equations_at_0 : decode gb_Equations_at 0 = .ok (.iload_n 0, 1) := by decide +kernel
theorem gd_Equations_at_1 : decode gb_Equations_at 1 = .ok (.bipush 60, 2) := by decide +kernel
theorem gd_Equations_at_3 : decode gb_Equations_at 3 = .ok (.imul, 1) := by decide +kernel
theorem gd_Equations_at_4 : decode gb_Equations_at 4 = .ok (.iload_n 1, 1) := by decide +kernel
theorem gd_Equations_at_5 : decode gb_Equations_at 5 = .ok (.iadd, 1) := by decide +kernel
theorem gd_Equations_at_6 : decode gb_Equations_at 6 = .ok (.ireturn, 1) := by decide +kernel
def gf_Equations_at_b0 (F : Nat) (z : gw_Sh)  (u : gw_St) (x0 : Int32) (x1 : Int32) : Option (Int32 × gw_St) :=
  some (((x0 * (60 : Int32)) + x1), u)
def gf_Equations_at (F : Nat) (z : gw_Sh) (u : gw_St) (x0 : Int32) (x1 : Int32) : Option (Int32 × gw_St) := gf_Equations_at_b0 F z  u x0 x1
set_option maxHeartbeats 4000000 in
set_option maxRecDepth 20000 in
theorem gx_Equations_at_b0 {p : Program} {l : Launch} {e : Env} {s : State} {m : MethodId} {args : Array Value} {below : List Frame} {meth : Method} {c : Code} {D : va_G} {cA : Nat → ClassId} {hs : Nat → Nat} {z : gw_Sh} (F : Nat) {r0 : (Int32 × gw_St)} (C : gw_Cx p s m args c gb_Equations_at 2 R_Equations D cA) (hr : meth.sig.returnType = (some .int)) (hk : meth.locks = false) (u : gw_St) (x0 : Int32) (x1 : Int32)  {H : Heap} {locs : List Loc} {ls : Array Slot} (hW : gw_Wx D cA hs z s u H locs) (hl : lv_has ls 2 [(0, .int x0), (1, .int x1)]) (h : gf_Equations_at_b0 F z   u x0 x1 = some r0) : gw_Gi p l e gr_Equations_at s m args below meth c D cA hs z r0 H locs ls 0 [] := by
  obtain ⟨hx, hb, hml, hown, hts, hK⟩ := id C
  unfold gf_Equations_at_b0 at h
  refine lv_iload_n hx hb gd_Equations_at_0 rfl (lv_at hl 0 rfl) ?_
  refine lv_bipush (v := 60) hx hb gd_Equations_at_1 (by decide) ?_
  refine lv_imul hx hb gd_Equations_at_3 ?_
  refine lv_iload_n hx hb gd_Equations_at_4 rfl (lv_at hl 1 rfl) ?_
  refine lv_iadd hx hb gd_Equations_at_5 ?_
  obtain rfl := Option.some.inj h
  exact gw_iret C hW hr hk gd_Equations_at_6

set_option maxRecDepth 20000 in
theorem gc_Equations_at (l : Launch) {D : va_G} {cA : Nat → ClassId} {hs : Nat → Nat} {z : gw_Sh} (F : Nat) {u : gw_St} {r0 : (Int32 × gw_St)} {x0 : Int32} {x1 : Int32}  (h : gf_Equations_at F z u x0 x1 = some r0) (sz : Nat) : gw_Mi l gy_Equations_at gb_Equations_at 2 (some .int) gr_Equations_at [.int x0, .int x1] D cA hs z u sz r0 := by
  refine gw_enter (by decide) (Nat.le_of_ble_eq_true rfl) ?_
  intro p e s m below meth c ls hsz C hW hr hk _ hl
  subst hsz
  exact gx_Equations_at_b0 F C hr hk u x0 x1  hW (lv_sub hl [0, 1] rfl) h
-- GearDesk$Equations.load(LGearDesk$Whole;II)V
theorem gk_235 : Cond.methodLink R_Equations 105 gy_Equations_at ∈ gt_T := gt_m5 (List.mem_of_getElem? (i := 78) rfl) rfl
theorem gk_236 : Cond.static gy_Equations_at ∈ gt_T := gt_m5 (List.mem_of_getElem? (i := 79) rfl) rfl
theorem gk_237 : Cond.fieldLink R_Equations 20 R_Equations "sizes" "[I" ∈ gt_T := gt_m1 (List.mem_of_getElem? (i := 217) rfl) rfl
theorem gk_238 : Cond.methodLink R_Equations 191 Lib.Math.abs.name ∈ gt_T := gt_m5 (List.mem_of_getElem? (i := 85) rfl) rfl
theorem gk_239 : Cond.fieldLink R_Equations 197 R_Whole "size" "I" ∈ gt_T := gt_m1 (List.mem_of_getElem? (i := 148) rfl) rfl
theorem gk_240 : Cond.methodLink R_Equations 200 gy_Integer_signum ∈ gt_T := gt_m5 (List.mem_of_getElem? (i := 88) rfl) rfl
theorem gk_241 : Cond.static gy_Integer_signum ∈ gt_T := gt_m5 (List.mem_of_getElem? (i := 89) rfl) rfl
theorem gk_242 : Cond.fieldLink R_Equations 170 R_Whole "sign" "I" ∈ gt_T := gt_m1 (List.mem_of_getElem? (i := 152) rfl) rfl
theorem gk_243 : Cond.fieldLink R_Equations 16 R_Equations "cells" "[I" ∈ gt_T := gt_m1 (List.mem_of_getElem? (i := 216) rfl) rfl
theorem gk_244 : Cond.fieldLink R_Equations 205 R_Whole "limbs" "[I" ∈ gt_T := gt_m1 (List.mem_of_getElem? (i := 145) rfl) rfl
theorem gk_245 : Cond.methodLink R_Equations 208 arraycopyName ∈ gt_T := gt_m5 (List.mem_of_getElem? (i := 91) rfl) rfl
def gy_Equations_load : MethodName := ⟨R_Equations, "load", "(LGearDesk$Whole;II)V"⟩
abbrev gb_Equations_load : ByteArray := prog_3_method_13_code
theorem gk_246 : Cond.code gy_Equations_load gb_Equations_load 5 none ∈ gt_T := gt_m5 (List.mem_of_getElem? (i := 84) rfl) rfl
def gr_Equations_load : Room := gw_rm 2 85
theorem gm_Equations_load : gw_Mth gy_Equations_load gb_Equations_load 5 none 3 := ⟨gk_246, gk_226, ⟨by decide +kernel, by decide +kernel⟩, by decide +kernel⟩
theorem gd_Equations_load_0 : decode gb_Equations_load 0 = .ok (.iload_n 2, 1) := by decide +kernel
theorem gd_Equations_load_1 : decode gb_Equations_load 1 = .ok (.iload_n 3, 1) := by decide +kernel
theorem gd_Equations_load_2 : decode gb_Equations_load 2 = .ok (.invokestatic 105, 3) := by decide +kernel
theorem gd_Equations_load_5 : decode gb_Equations_load 5 = .ok (.istore 4, 2) := by decide +kernel
theorem gd_Equations_load_7 : decode gb_Equations_load 7 = .ok (.aload_n 1, 1) := by decide +kernel
theorem gd_Equations_load_8 : decode gb_Equations_load 8 = .ok (.aload_n 0, 1) := by decide +kernel
theorem gd_Equations_load_9 : decode gb_Equations_load 9 = .ok (.getfield 20, 3) := by decide +kernel
theorem gd_Equations_load_12 : decode gb_Equations_load 12 = .ok (.iload 4, 2) := by decide +kernel
theorem gd_Equations_load_14 : decode gb_Equations_load 14 = .ok (.iaload, 1) := by decide +kernel
theorem gd_Equations_load_15 : decode gb_Equations_load 15 = .ok (.invokestatic 191, 3) := by decide +kernel
theorem gd_Equations_load_18 : decode gb_Equations_load 18 = .ok (.putfield 197, 3) := by decide +kernel
theorem gd_Equations_load_21 : decode gb_Equations_load 21 = .ok (.aload_n 1, 1) := by decide +kernel
theorem gd_Equations_load_22 : decode gb_Equations_load 22 = .ok (.aload_n 0, 1) := by decide +kernel
theorem gd_Equations_load_23 : decode gb_Equations_load 23 = .ok (.getfield 20, 3) := by decide +kernel
theorem gd_Equations_load_26 : decode gb_Equations_load 26 = .ok (.iload 4, 2) := by decide +kernel
theorem gd_Equations_load_28 : decode gb_Equations_load 28 = .ok (.iaload, 1) := by decide +kernel
theorem gd_Equations_load_29 : decode gb_Equations_load 29 = .ok (.invokestatic 200, 3) := by decide +kernel
theorem gd_Equations_load_32 : decode gb_Equations_load 32 = .ok (.putfield 170, 3) := by decide +kernel
theorem gd_Equations_load_35 : decode gb_Equations_load 35 = .ok (.aload_n 0, 1) := by decide +kernel
theorem gd_Equations_load_36 : decode gb_Equations_load 36 = .ok (.getfield 16, 3) := by decide +kernel
theorem gd_Equations_load_39 : decode gb_Equations_load 39 = .ok (.iload 4, 2) := by decide +kernel
theorem gd_Equations_load_41 : decode gb_Equations_load 41 = .ok (.bipush 22, 2) := by decide +kernel
theorem gd_Equations_load_43 : decode gb_Equations_load 43 = .ok (.imul, 1) := by decide +kernel
theorem gd_Equations_load_44 : decode gb_Equations_load 44 = .ok (.aload_n 1, 1) := by decide +kernel
theorem gd_Equations_load_45 : decode gb_Equations_load 45 = .ok (.getfield 205, 3) := by decide +kernel
theorem gd_Equations_load_48 : decode gb_Equations_load 48 = .ok (.iconst 0, 1) := by decide +kernel
theorem gd_Equations_load_49 : decode gb_Equations_load 49 = .ok (.aload_n 1, 1) := by decide +kernel
theorem gd_Equations_load_50 : decode gb_Equations_load 50 = .ok (.getfield 197, 3) := by decide +kernel
theorem gd_Equations_load_53 : decode gb_Equations_load 53 = .ok (.invokestatic 208, 3) := by decide +kernel
theorem gd_Equations_load_56 : decode gb_Equations_load 56 = .ok (.return_, 1) := by decide +kernel
def gf_Equations_load_b0 (F : Nat) (z : gw_Sh)  (u : gw_St) (t0 : Nat) (t1 : Nat) (x2 : Int32) (x3 : Int32) : Option gw_St :=
  gf_cl (gf_Equations_at F z u x2 x3) fun a3 u1 => gf_nn (u1.2.2 t0 2) fun q4 => if (a3 < 0 ∨ z.2.2 q4 ≤ (a3).toNatClampNeg) then none else gf_nm (gw_wi u1 t1 1 (if 0 ≤ (u1.1 q4 (a3).toNatClampNeg) then (u1.1 q4 (a3).toNatClampNeg) else 0 - (u1.1 q4 (a3).toNatClampNeg))) fun u7 => gf_nn (u7.2.2 t0 2) fun q9 => if (a3 < 0 ∨ z.2.2 q9 ≤ (a3).toNatClampNeg) then none else gf_cl (gf_Integer_signum F z u7 (u7.1 q9 (a3).toNatClampNeg)) fun a14 u12 => gf_nm (gw_wi u12 t1 2 a14) fun u15 => gf_nn (u15.2.2 t0 1) fun q17 => gf_nn (u15.2.2 t1 0) fun q19 => if ((a3 * (22 : Int32)) < 0 ∨ (0 : Int32) < 0 ∨ (u15.1 t1 1) < 0 ∨ z.2.2 q17 < ((a3 * (22 : Int32))).toNatClampNeg + ((u15.1 t1 1)).toNatClampNeg ∨ z.2.2 q19 < ((0 : Int32)).toNatClampNeg + ((u15.1 t1 1)).toNatClampNeg) then none else gf_nm (gw_cp u15 q17 ((a3 * (22 : Int32))).toNatClampNeg q19 ((0 : Int32)).toNatClampNeg ((u15.1 t1 1)).toNatClampNeg) fun u22 => some u22
def gf_Equations_load (F : Nat) (z : gw_Sh) (u : gw_St) (t0 : Nat) (t1 : Nat) (x2 : Int32) (x3 : Int32) : Option gw_St := gf_Equations_load_b0 F z  u t0 t1 x2 x3
set_option maxHeartbeats 4000000 in
set_option maxRecDepth 20000 in
theorem gx_Equations_load_b0 {p : Program} {l : Launch} {e : Env} {s : State} {m : MethodId} {args : Array Value} {below : List Frame} {meth : Method} {c : Code} {D : va_G} {cA : Nat → ClassId} {hs : Nat → Nat} {z : gw_Sh} (F : Nat) {r0 : gw_St} (C : gw_Cx p s m args c gb_Equations_load 5 R_Equations D cA) (hr : meth.sig.returnType = none) (hk : meth.locks = false) (u : gw_St) (t0 : Nat) (t1 : Nat) (x2 : Int32) (x3 : Int32) (o_t0 : gw_ok z t0 4) (o_t1 : gw_ok z t1 8) {H : Heap} {locs : List Loc} {ls : Array Slot} (hW : gw_Wx D cA hs z s u H locs) (hl : lv_has ls 5 [(0, .ref (hs t0)), (1, .ref (hs t1)), (2, .int x2), (3, .int x3)]) (h : gf_Equations_load_b0 F z   u t0 t1 x2 x3 = some r0) : gw_Gv p l e gr_Equations_load s m args below meth c D cA hs z r0 H locs ls 0 [] := by
  obtain ⟨hx, hb, hml, hown, hts, hK⟩ := id C
  unfold gf_Equations_load_b0 at h
  refine lv_iload_n hx hb gd_Equations_load_0 rfl (lv_at hl 2 rfl) ?_
  refine lv_iload_n hx hb gd_Equations_load_1 rfl (lv_at hl 3 rfl) ?_
  obtain ⟨a3, u1, d2, h⟩ := gf_cl_ok h
  refine gw_callSi (As := [.int x2, .int x3]) (rest := []) C hW (fun _ h => Or.inr h) hl.1 gm_Equations_at (gc_Equations_at l F  d2 _) gk_235 gk_236 rfl rfl ⟨Nat.le_of_ble_eq_true rfl, Nat.le_of_ble_eq_true rfl⟩ ⟨Nat.zero_le _, Nat.zero_le _⟩ rfl rfl (Nat.le_of_ble_eq_true rfl) gd_Equations_load_2 (fun H locs hW => ?_)
  refine lv_istore (lv' := [(4, .int a3), (0, .ref (hs t0)), (1, .ref (hs t1)), (2, .int x2), (3, .int x3)]) hx hb gd_Equations_load_5 hl (by decide) rfl (fun ls hl => ?_)
  refine lv_aload_n hx hb gd_Equations_load_7 rfl (lv_at hl 2 rfl) ?_
  refine lv_aload_n hx hb gd_Equations_load_8 rfl (lv_at hl 1 rfl) ?_
  obtain ⟨q4, e5, h⟩ := gf_nn_ok h
  refine gw_getr (k := 2) (ty := 10) (ref := R_Equations) C hW o_t0 (by decide) rfl gi_Equations rfl (by decide) rfl rfl gk_237 gd_Equations_load_9 e5 ?_
  have o_q4 := hW.ref (d := 10) o_t0 e5 rfl
  refine lv_iload hx hb gd_Equations_load_12 (lv_at hl 0 rfl) ?_
  obtain ⟨g6, h⟩ := gf_if_ok h
  refine gw_iald C hW o_q4 g6 gd_Equations_load_14 ?_
  refine va_mabs hx hb (hml.trans hl.1.symm) hown (hts _ gk_238) (hts _ gk_94) (hts _ gk_26) (hts _ gk_95) (Nat.le_of_ble_eq_true rfl) (Nat.le_of_ble_eq_true rfl) (Nat.zero_le _) (Nat.zero_le _) gd_Equations_load_15 ?_
  refine gw_puti (k := 1) (ref := R_Whole) (fty := .int) C hW o_t1 (by decide) rfl gi_Whole rfl (by decide) rfl rfl gk_239 tf_Whole tf_Whole_ok nm_Whole rfl rfl rfl rfl gd_Equations_load_18 (fun u7 H locs e8 hW => ?_)
  have h := gf_nm_ok e8 h
  refine lv_aload_n hx hb gd_Equations_load_21 rfl (lv_at hl 2 rfl) ?_
  refine lv_aload_n hx hb gd_Equations_load_22 rfl (lv_at hl 1 rfl) ?_
  obtain ⟨q9, e10, h⟩ := gf_nn_ok h
  refine gw_getr (k := 2) (ty := 10) (ref := R_Equations) C hW o_t0 (by decide) rfl gi_Equations rfl (by decide) rfl rfl gk_237 gd_Equations_load_23 e10 ?_
  have o_q9 := hW.ref (d := 10) o_t0 e10 rfl
  refine lv_iload hx hb gd_Equations_load_26 (lv_at hl 0 rfl) ?_
  obtain ⟨g11, h⟩ := gf_if_ok h
  refine gw_iald C hW o_q9 g11 gd_Equations_load_28 ?_
  obtain ⟨a14, u12, d13, h⟩ := gf_cl_ok h
  refine gw_callSi (As := [.int (u7.1 q9 (a3).toNatClampNeg)]) (rest := [.ref (hs t1)]) C hW (fun _ h => Or.inr h) hl.1 gm_Integer_signum (gc_Integer_signum l F  d13 _) gk_240 gk_241 rfl rfl ⟨Nat.le_of_ble_eq_true rfl, Nat.le_of_ble_eq_true rfl⟩ ⟨Nat.zero_le _, Nat.zero_le _⟩ rfl rfl (Nat.le_of_ble_eq_true rfl) gd_Equations_load_29 (fun H locs hW => ?_)
  refine gw_puti (k := 2) (ref := R_Whole) (fty := .int) C hW o_t1 (by decide) rfl gi_Whole rfl (by decide) rfl rfl gk_242 tf_Whole tf_Whole_ok nm_Whole rfl rfl rfl rfl gd_Equations_load_32 (fun u15 H locs e16 hW => ?_)
  have h := gf_nm_ok e16 h
  refine lv_aload_n hx hb gd_Equations_load_35 rfl (lv_at hl 1 rfl) ?_
  obtain ⟨q17, e18, h⟩ := gf_nn_ok h
  refine gw_getr (k := 1) (ty := 10) (ref := R_Equations) C hW o_t0 (by decide) rfl gi_Equations rfl (by decide) rfl rfl gk_243 gd_Equations_load_36 e18 ?_
  have o_q17 := hW.ref (d := 10) o_t0 e18 rfl
  refine lv_iload hx hb gd_Equations_load_39 (lv_at hl 0 rfl) ?_
  refine lv_bipush (v := 22) hx hb gd_Equations_load_41 (by decide) ?_
  refine lv_imul hx hb gd_Equations_load_43 ?_
  refine lv_aload_n hx hb gd_Equations_load_44 rfl (lv_at hl 2 rfl) ?_
  obtain ⟨q19, e20, h⟩ := gf_nn_ok h
  refine gw_getr (k := 0) (ty := 10) (ref := R_Whole) C hW o_t1 (by decide) rfl gi_Whole rfl (by decide) rfl rfl gk_244 gd_Equations_load_45 e20 ?_
  have o_q19 := hW.ref (d := 10) o_t1 e20 rfl
  refine lv_iconst (v := 0) hx hb gd_Equations_load_48 (by decide) ?_
  refine lv_aload_n hx hb gd_Equations_load_49 rfl (lv_at hl 2 rfl) ?_
  refine gw_geti (k := 1) (ref := R_Whole) C hW o_t1 (by decide) rfl gi_Whole rfl (by decide) rfl rfl gk_239 gd_Equations_load_50 ?_
  obtain ⟨g21, h⟩ := gf_if_ok h
  refine gw_copy C hW hl.1 gk_245 gk_30 gk_31 gk_32 o_q17 o_q19 g21 (Nat.le_of_ble_eq_true rfl) (Nat.le_of_ble_eq_true rfl) gd_Equations_load_53 (fun u22 H locs e23 hW => ?_)
  have h := gf_nm_ok e23 h
  obtain rfl := Option.some.inj h
  exact gw_vret C hW hr hk gd_Equations_load_56

set_option maxRecDepth 20000 in
theorem gc_Equations_load (l : Launch) {D : va_G} {cA : Nat → ClassId} {hs : Nat → Nat} {z : gw_Sh} (F : Nat) {u : gw_St} {r0 : gw_St} {t0 : Nat} {t1 : Nat} {x2 : Int32} {x3 : Int32} (o_t0 : gw_ok z t0 4) (o_t1 : gw_ok z t1 8) (h : gf_Equations_load F z u t0 t1 x2 x3 = some r0) (sz : Nat) : gw_Mv l gy_Equations_load gb_Equations_load 5 none gr_Equations_load [.ref (hs t0), .ref (hs t1), .int x2, .int x3] D cA hs z u sz r0 := by
  refine gw_enter (by decide) (Nat.le_of_ble_eq_true rfl) ?_
  intro p e s m below meth c ls hsz C hW hr hk _ hl
  subst hsz
  exact gx_Equations_load_b0 F C hr hk u t0 t1 x2 x3 o_t0 o_t1 hW (lv_sub hl [0, 1, 2, 3] rfl) h
-- GearDesk$Equations.store(LGearDesk$Whole;II)V
def gy_Equations_store : MethodName := ⟨R_Equations, "store", "(LGearDesk$Whole;II)V"⟩
abbrev gb_Equations_store : ByteArray := prog_3_method_14_code
theorem gk_247 : Cond.code gy_Equations_store gb_Equations_store 5 none ∈ gt_T := gt_m5 (List.mem_of_getElem? (i := 95) rfl) rfl
def gr_Equations_store : Room := gw_rm 2 85
theorem gm_Equations_store : gw_Mth gy_Equations_store gb_Equations_store 5 none 3 := ⟨gk_247, gk_226, ⟨by decide +kernel, by decide +kernel⟩, by decide +kernel⟩
theorem gd_Equations_store_0 : decode gb_Equations_store 0 = .ok (.iload_n 2, 1) := by decide +kernel
theorem gd_Equations_store_1 : decode gb_Equations_store 1 = .ok (.iload_n 3, 1) := by decide +kernel
theorem gd_Equations_store_2 : decode gb_Equations_store 2 = .ok (.invokestatic 105, 3) := by decide +kernel
theorem gd_Equations_store_5 : decode gb_Equations_store 5 = .ok (.istore 4, 2) := by decide +kernel
theorem gd_Equations_store_7 : decode gb_Equations_store 7 = .ok (.aload_n 0, 1) := by decide +kernel
theorem gd_Equations_store_8 : decode gb_Equations_store 8 = .ok (.getfield 20, 3) := by decide +kernel
theorem gd_Equations_store_11 : decode gb_Equations_store 11 = .ok (.iload 4, 2) := by decide +kernel
theorem gd_Equations_store_13 : decode gb_Equations_store 13 = .ok (.aload_n 1, 1) := by decide +kernel
theorem gd_Equations_store_14 : decode gb_Equations_store 14 = .ok (.getfield 170, 3) := by decide +kernel
theorem gd_Equations_store_17 : decode gb_Equations_store 17 = .ok (.aload_n 1, 1) := by decide +kernel
theorem gd_Equations_store_18 : decode gb_Equations_store 18 = .ok (.getfield 197, 3) := by decide +kernel
theorem gd_Equations_store_21 : decode gb_Equations_store 21 = .ok (.imul, 1) := by decide +kernel
theorem gd_Equations_store_22 : decode gb_Equations_store 22 = .ok (.iastore, 1) := by decide +kernel
theorem gd_Equations_store_23 : decode gb_Equations_store 23 = .ok (.aload_n 1, 1) := by decide +kernel
theorem gd_Equations_store_24 : decode gb_Equations_store 24 = .ok (.getfield 205, 3) := by decide +kernel
theorem gd_Equations_store_27 : decode gb_Equations_store 27 = .ok (.iconst 0, 1) := by decide +kernel
theorem gd_Equations_store_28 : decode gb_Equations_store 28 = .ok (.aload_n 0, 1) := by decide +kernel
theorem gd_Equations_store_29 : decode gb_Equations_store 29 = .ok (.getfield 16, 3) := by decide +kernel
theorem gd_Equations_store_32 : decode gb_Equations_store 32 = .ok (.iload 4, 2) := by decide +kernel
theorem gd_Equations_store_34 : decode gb_Equations_store 34 = .ok (.bipush 22, 2) := by decide +kernel
theorem gd_Equations_store_36 : decode gb_Equations_store 36 = .ok (.imul, 1) := by decide +kernel
theorem gd_Equations_store_37 : decode gb_Equations_store 37 = .ok (.aload_n 1, 1) := by decide +kernel
theorem gd_Equations_store_38 : decode gb_Equations_store 38 = .ok (.getfield 197, 3) := by decide +kernel
theorem gd_Equations_store_41 : decode gb_Equations_store 41 = .ok (.invokestatic 208, 3) := by decide +kernel
theorem gd_Equations_store_44 : decode gb_Equations_store 44 = .ok (.return_, 1) := by decide +kernel
def gf_Equations_store_b0 (F : Nat) (z : gw_Sh)  (u : gw_St) (t0 : Nat) (t1 : Nat) (x2 : Int32) (x3 : Int32) : Option gw_St :=
  gf_cl (gf_Equations_at F z u x2 x3) fun a3 u1 => gf_nn (u1.2.2 t0 2) fun q4 => if (a3 < 0 ∨ z.2.2 q4 ≤ (a3).toNatClampNeg) then none else gf_nm (gw_wi u1 q4 (a3).toNatClampNeg ((u1.1 t1 2) * (u1.1 t1 1))) fun u7 => gf_nn (u7.2.2 t1 0) fun q9 => gf_nn (u7.2.2 t0 1) fun q11 => if ((0 : Int32) < 0 ∨ (a3 * (22 : Int32)) < 0 ∨ (u7.1 t1 1) < 0 ∨ z.2.2 q9 < ((0 : Int32)).toNatClampNeg + ((u7.1 t1 1)).toNatClampNeg ∨ z.2.2 q11 < ((a3 * (22 : Int32))).toNatClampNeg + ((u7.1 t1 1)).toNatClampNeg) then none else gf_nm (gw_cp u7 q9 ((0 : Int32)).toNatClampNeg q11 ((a3 * (22 : Int32))).toNatClampNeg ((u7.1 t1 1)).toNatClampNeg) fun u14 => some u14
def gf_Equations_store (F : Nat) (z : gw_Sh) (u : gw_St) (t0 : Nat) (t1 : Nat) (x2 : Int32) (x3 : Int32) : Option gw_St := gf_Equations_store_b0 F z  u t0 t1 x2 x3
set_option maxHeartbeats 4000000 in
set_option maxRecDepth 20000 in
theorem gx_Equations_store_b0 {p : Program} {l : Launch} {e : Env} {s : State} {m : MethodId} {args : Array Value} {below : List Frame} {meth : Method} {c : Code} {D : va_G} {cA : Nat → ClassId} {hs : Nat → Nat} {z : gw_Sh} (F : Nat) {r0 : gw_St} (C : gw_Cx p s m args c gb_Equations_store 5 R_Equations D cA) (hr : meth.sig.returnType = none) (hk : meth.locks = false) (u : gw_St) (t0 : Nat) (t1 : Nat) (x2 : Int32) (x3 : Int32) (o_t0 : gw_ok z t0 4) (o_t1 : gw_ok z t1 8) {H : Heap} {locs : List Loc} {ls : Array Slot} (hW : gw_Wx D cA hs z s u H locs) (hl : lv_has ls 5 [(0, .ref (hs t0)), (1, .ref (hs t1)), (2, .int x2), (3, .int x3)]) (h : gf_Equations_store_b0 F z   u t0 t1 x2 x3 = some r0) : gw_Gv p l e gr_Equations_store s m args below meth c D cA hs z r0 H locs ls 0 [] := by
  obtain ⟨hx, hb, hml, hown, hts, hK⟩ := id C
  unfold gf_Equations_store_b0 at h
  refine lv_iload_n hx hb gd_Equations_store_0 rfl (lv_at hl 2 rfl) ?_
  refine lv_iload_n hx hb gd_Equations_store_1 rfl (lv_at hl 3 rfl) ?_
  obtain ⟨a3, u1, d2, h⟩ := gf_cl_ok h
  refine gw_callSi (As := [.int x2, .int x3]) (rest := []) C hW (fun _ h => Or.inr h) hl.1 gm_Equations_at (gc_Equations_at l F  d2 _) gk_235 gk_236 rfl rfl ⟨Nat.le_of_ble_eq_true rfl, Nat.le_of_ble_eq_true rfl⟩ ⟨Nat.zero_le _, Nat.zero_le _⟩ rfl rfl (Nat.le_of_ble_eq_true rfl) gd_Equations_store_2 (fun H locs hW => ?_)
  refine lv_istore (lv' := [(4, .int a3), (0, .ref (hs t0)), (1, .ref (hs t1)), (2, .int x2), (3, .int x3)]) hx hb gd_Equations_store_5 hl (by decide) rfl (fun ls hl => ?_)
  refine lv_aload_n hx hb gd_Equations_store_7 rfl (lv_at hl 1 rfl) ?_
  obtain ⟨q4, e5, h⟩ := gf_nn_ok h
  refine gw_getr (k := 2) (ty := 10) (ref := R_Equations) C hW o_t0 (by decide) rfl gi_Equations rfl (by decide) rfl rfl gk_237 gd_Equations_store_8 e5 ?_
  have o_q4 := hW.ref (d := 10) o_t0 e5 rfl
  refine lv_iload hx hb gd_Equations_store_11 (lv_at hl 0 rfl) ?_
  refine lv_aload_n hx hb gd_Equations_store_13 rfl (lv_at hl 2 rfl) ?_
  refine gw_geti (k := 2) (ref := R_Whole) C hW o_t1 (by decide) rfl gi_Whole rfl (by decide) rfl rfl gk_242 gd_Equations_store_14 ?_
  refine lv_aload_n hx hb gd_Equations_store_17 rfl (lv_at hl 2 rfl) ?_
  refine gw_geti (k := 1) (ref := R_Whole) C hW o_t1 (by decide) rfl gi_Whole rfl (by decide) rfl rfl gk_239 gd_Equations_store_18 ?_
  refine lv_imul hx hb gd_Equations_store_21 ?_
  obtain ⟨g6, h⟩ := gf_if_ok h
  refine gw_iast C hW o_q4 g6 gd_Equations_store_22 (fun u7 H locs e8 hW => ?_)
  have h := gf_nm_ok e8 h
  refine lv_aload_n hx hb gd_Equations_store_23 rfl (lv_at hl 2 rfl) ?_
  obtain ⟨q9, e10, h⟩ := gf_nn_ok h
  refine gw_getr (k := 0) (ty := 10) (ref := R_Whole) C hW o_t1 (by decide) rfl gi_Whole rfl (by decide) rfl rfl gk_244 gd_Equations_store_24 e10 ?_
  have o_q9 := hW.ref (d := 10) o_t1 e10 rfl
  refine lv_iconst (v := 0) hx hb gd_Equations_store_27 (by decide) ?_
  refine lv_aload_n hx hb gd_Equations_store_28 rfl (lv_at hl 1 rfl) ?_
  obtain ⟨q11, e12, h⟩ := gf_nn_ok h
  refine gw_getr (k := 1) (ty := 10) (ref := R_Equations) C hW o_t0 (by decide) rfl gi_Equations rfl (by decide) rfl rfl gk_243 gd_Equations_store_29 e12 ?_
  have o_q11 := hW.ref (d := 10) o_t0 e12 rfl
  refine lv_iload hx hb gd_Equations_store_32 (lv_at hl 0 rfl) ?_
  refine lv_bipush (v := 22) hx hb gd_Equations_store_34 (by decide) ?_
  refine lv_imul hx hb gd_Equations_store_36 ?_
  refine lv_aload_n hx hb gd_Equations_store_37 rfl (lv_at hl 2 rfl) ?_
  refine gw_geti (k := 1) (ref := R_Whole) C hW o_t1 (by decide) rfl gi_Whole rfl (by decide) rfl rfl gk_239 gd_Equations_store_38 ?_
  obtain ⟨g13, h⟩ := gf_if_ok h
  refine gw_copy C hW hl.1 gk_245 gk_30 gk_31 gk_32 o_q9 o_q11 g13 (Nat.le_of_ble_eq_true rfl) (Nat.le_of_ble_eq_true rfl) gd_Equations_store_41 (fun u14 H locs e15 hW => ?_)
  have h := gf_nm_ok e15 h
  obtain rfl := Option.some.inj h
  exact gw_vret C hW hr hk gd_Equations_store_44

set_option maxRecDepth 20000 in
theorem gc_Equations_store (l : Launch) {D : va_G} {cA : Nat → ClassId} {hs : Nat → Nat} {z : gw_Sh} (F : Nat) {u : gw_St} {r0 : gw_St} {t0 : Nat} {t1 : Nat} {x2 : Int32} {x3 : Int32} (o_t0 : gw_ok z t0 4) (o_t1 : gw_ok z t1 8) (h : gf_Equations_store F z u t0 t1 x2 x3 = some r0) (sz : Nat) : gw_Mv l gy_Equations_store gb_Equations_store 5 none gr_Equations_store [.ref (hs t0), .ref (hs t1), .int x2, .int x3] D cA hs z u sz r0 := by
  refine gw_enter (by decide) (Nat.le_of_ble_eq_true rfl) ?_
  intro p e s m below meth c ls hsz C hW hr hk _ hl
  subst hsz
  exact gx_Equations_store_b0 F C hr hk u t0 t1 x2 x3 o_t0 o_t1 hW (lv_sub hl [0, 1, 2, 3] rfl) h
-- GearDesk$Equations.fillNewCell(I)V
theorem gk_248 : Cond.fieldLink R_Equations 49 R_Equations "sum" "LGearDesk$Whole;" ∈ gt_T := gt_m1 (List.mem_of_getElem? (i := 224) rfl) rfl
theorem gk_249 : Cond.fieldLink R_Equations 78 R_Equations "rows" "I" ∈ gt_T := gt_m1 (List.mem_of_getElem? (i := 230) rfl) rfl
theorem gk_250 : Cond.methodLink R_Equations 164 gy_Equations_store ∈ gt_T := gt_m5 (List.mem_of_getElem? (i := 92) rfl) rfl
theorem gk_251 : Cond.instanceMethod gy_Equations_store ∈ gt_T := gt_m5 (List.mem_of_getElem? (i := 94) rfl) rfl
theorem gk_252 : Cond.selects R_Equations gy_Equations_store gy_Equations_store ∈ gt_T := gt_p2 (List.mem_of_getElem? (i := 9) rfl) rfl
theorem gk_253 : Cond.fieldLink R_Equations 23 R_Equations "rowOf" "[I" ∈ gt_T := gt_m1 (List.mem_of_getElem? (i := 218) rfl) rfl
theorem gk_254 : Cond.fieldLink R_Equations 39 R_Equations "cell" "LGearDesk$Whole;" ∈ gt_T := gt_m1 (List.mem_of_getElem? (i := 221) rfl) rfl
theorem gk_255 : Cond.methodLink R_Equations 160 gy_Equations_load ∈ gt_T := gt_m5 (List.mem_of_getElem? (i := 81) rfl) rfl
theorem gk_256 : Cond.instanceMethod gy_Equations_load ∈ gt_T := gt_m5 (List.mem_of_getElem? (i := 83) rfl) rfl
theorem gk_257 : Cond.selects R_Equations gy_Equations_load gy_Equations_load ∈ gt_T := gt_p2 (List.mem_of_getElem? (i := 8) rfl) rfl
theorem gk_258 : Cond.fieldLink R_Equations 43 R_Equations "factor" "LGearDesk$Whole;" ∈ gt_T := gt_m1 (List.mem_of_getElem? (i := 222) rfl) rfl
theorem gk_259 : Cond.methodLink R_Equations 81 gy_Whole_setLong ∈ gt_T := gt_m5 (List.mem_of_getElem? (i := 42) rfl) rfl
theorem gk_260 : Cond.fieldLink R_Equations 46 R_Equations "product" "LGearDesk$Whole;" ∈ gt_T := gt_m1 (List.mem_of_getElem? (i := 223) rfl) rfl
theorem gk_261 : Cond.methodLink R_Equations 153 gy_Whole_setProduct ∈ gt_T := gt_m5 (List.mem_of_getElem? (i := 61) rfl) rfl
theorem gk_262 : Cond.instanceMethod gy_Whole_setProduct ∈ gt_T := gt_m5 (List.mem_of_getElem? (i := 62) rfl) rfl
theorem gk_263 : Cond.selects R_Whole gy_Whole_setProduct gy_Whole_setProduct ∈ gt_T := gt_m5 (List.mem_of_getElem? (i := 63) rfl) rfl
theorem gk_264 : Cond.methodLink R_Equations 157 gy_Whole_setDifference ∈ gt_T := gt_m5 (List.mem_of_getElem? (i := 66) rfl) rfl
theorem gk_265 : Cond.instanceMethod gy_Whole_setDifference ∈ gt_T := gt_m5 (List.mem_of_getElem? (i := 67) rfl) rfl
theorem gk_266 : Cond.selects R_Whole gy_Whole_setDifference gy_Whole_setDifference ∈ gt_T := gt_m5 (List.mem_of_getElem? (i := 68) rfl) rfl
theorem gk_267 : Cond.fieldLink R_Equations 59 R_Equations "common" "LGearDesk$Whole;" ∈ gt_T := gt_m1 (List.mem_of_getElem? (i := 226) rfl) rfl
def gy_Equations_fillNewCell : MethodName := ⟨R_Equations, "fillNewCell", "(I)V"⟩
abbrev gb_Equations_fillNewCell : ByteArray := prog_3_method_7_code
theorem gk_268 : Cond.code gy_Equations_fillNewCell gb_Equations_fillNewCell 4 none ∈ gt_T := gt_m5 (List.mem_of_getElem? (i := 60) rfl) rfl
def gr_Equations_fillNewCell : Room := gw_rm 4 141
theorem gm_Equations_fillNewCell : gw_Mth gy_Equations_fillNewCell gb_Equations_fillNewCell 4 none 1 := ⟨gk_268, gk_226, ⟨by decide +kernel, by decide +kernel⟩, by decide +kernel⟩
theorem gd_Equations_fillNewCell_0 : decode gb_Equations_fillNewCell 0 = .ok (.aload_n 0, 1) := by decide +kernel
theorem gd_Equations_fillNewCell_1 : decode gb_Equations_fillNewCell 1 = .ok (.getfield 49, 3) := by decide +kernel
theorem gd_Equations_fillNewCell_4 : decode gb_Equations_fillNewCell 4 = .ok (.lconst 0, 1) := by decide +kernel
theorem gd_Equations_fillNewCell_5 : decode gb_Equations_fillNewCell 5 = .ok (.invokevirtual 81, 3) := by decide +kernel
theorem gd_Equations_fillNewCell_8 : decode gb_Equations_fillNewCell 8 = .ok (.iconst 0, 1) := by decide +kernel
theorem gd_Equations_fillNewCell_9 : decode gb_Equations_fillNewCell 9 = .ok (.istore_n 2, 1) := by decide +kernel
theorem gd_Equations_fillNewCell_10 : decode gb_Equations_fillNewCell 10 = .ok (.iload_n 2, 1) := by decide +kernel
theorem gd_Equations_fillNewCell_11 : decode gb_Equations_fillNewCell 11 = .ok (.aload_n 0, 1) := by decide +kernel
theorem gd_Equations_fillNewCell_12 : decode gb_Equations_fillNewCell 12 = .ok (.getfield 137, 3) := by decide +kernel
theorem gd_Equations_fillNewCell_15 : decode gb_Equations_fillNewCell 15 = .ok (.if_icmp .ge 151, 3) := by decide +kernel
theorem gd_Equations_fillNewCell_18 : decode gb_Equations_fillNewCell 18 = .ok (.aload_n 0, 1) := by decide +kernel
theorem gd_Equations_fillNewCell_19 : decode gb_Equations_fillNewCell 19 = .ok (.getfield 23, 3) := by decide +kernel
theorem gd_Equations_fillNewCell_22 : decode gb_Equations_fillNewCell 22 = .ok (.aload_n 0, 1) := by decide +kernel
theorem gd_Equations_fillNewCell_23 : decode gb_Equations_fillNewCell 23 = .ok (.getfield 26, 3) := by decide +kernel
theorem gd_Equations_fillNewCell_26 : decode gb_Equations_fillNewCell 26 = .ok (.iload_n 2, 1) := by decide +kernel
theorem gd_Equations_fillNewCell_27 : decode gb_Equations_fillNewCell 27 = .ok (.iaload, 1) := by decide +kernel
theorem gd_Equations_fillNewCell_28 : decode gb_Equations_fillNewCell 28 = .ok (.iaload, 1) := by decide +kernel
theorem gd_Equations_fillNewCell_29 : decode gb_Equations_fillNewCell 29 = .ok (.istore_n 3, 1) := by decide +kernel
theorem gd_Equations_fillNewCell_30 : decode gb_Equations_fillNewCell 30 = .ok (.aload_n 0, 1) := by decide +kernel
theorem gd_Equations_fillNewCell_31 : decode gb_Equations_fillNewCell 31 = .ok (.getfield 26, 3) := by decide +kernel
theorem gd_Equations_fillNewCell_34 : decode gb_Equations_fillNewCell 34 = .ok (.iload_n 2, 1) := by decide +kernel
theorem gd_Equations_fillNewCell_35 : decode gb_Equations_fillNewCell 35 = .ok (.iaload, 1) := by decide +kernel
theorem gd_Equations_fillNewCell_36 : decode gb_Equations_fillNewCell 36 = .ok (.iload_n 1, 1) := by decide +kernel
theorem gd_Equations_fillNewCell_37 : decode gb_Equations_fillNewCell 37 = .ok (.if_icmp .ne 51, 3) := by decide +kernel
theorem gd_Equations_fillNewCell_40 : decode gb_Equations_fillNewCell 40 = .ok (.aload_n 0, 1) := by decide +kernel
theorem gd_Equations_fillNewCell_41 : decode gb_Equations_fillNewCell 41 = .ok (.getfield 43, 3) := by decide +kernel
theorem gd_Equations_fillNewCell_44 : decode gb_Equations_fillNewCell 44 = .ok (.aload_n 0, 1) := by decide +kernel
theorem gd_Equations_fillNewCell_45 : decode gb_Equations_fillNewCell 45 = .ok (.getfield 29, 3) := by decide +kernel
theorem gd_Equations_fillNewCell_48 : decode gb_Equations_fillNewCell 48 = .ok (.iload_n 2, 1) := by decide +kernel
theorem gd_Equations_fillNewCell_49 : decode gb_Equations_fillNewCell 49 = .ok (.iaload, 1) := by decide +kernel
theorem gd_Equations_fillNewCell_50 : decode gb_Equations_fillNewCell 50 = .ok (.ineg, 1) := by decide +kernel
theorem gd_Equations_fillNewCell_51 : decode gb_Equations_fillNewCell 51 = .ok (.i2l, 1) := by decide +kernel
theorem gd_Equations_fillNewCell_52 : decode gb_Equations_fillNewCell 52 = .ok (.invokevirtual 81, 3) := by decide +kernel
theorem gd_Equations_fillNewCell_55 : decode gb_Equations_fillNewCell 55 = .ok (.aload_n 0, 1) := by decide +kernel
theorem gd_Equations_fillNewCell_56 : decode gb_Equations_fillNewCell 56 = .ok (.getfield 46, 3) := by decide +kernel
theorem gd_Equations_fillNewCell_59 : decode gb_Equations_fillNewCell 59 = .ok (.aload_n 0, 1) := by decide +kernel
theorem gd_Equations_fillNewCell_60 : decode gb_Equations_fillNewCell 60 = .ok (.getfield 59, 3) := by decide +kernel
theorem gd_Equations_fillNewCell_63 : decode gb_Equations_fillNewCell 63 = .ok (.aload_n 0, 1) := by decide +kernel
theorem gd_Equations_fillNewCell_64 : decode gb_Equations_fillNewCell 64 = .ok (.getfield 43, 3) := by decide +kernel
theorem gd_Equations_fillNewCell_67 : decode gb_Equations_fillNewCell 67 = .ok (.invokevirtual 153, 3) := by decide +kernel
theorem gd_Equations_fillNewCell_70 : decode gb_Equations_fillNewCell 70 = .ok (.aload_n 0, 1) := by decide +kernel
theorem gd_Equations_fillNewCell_71 : decode gb_Equations_fillNewCell 71 = .ok (.getfield 49, 3) := by decide +kernel
theorem gd_Equations_fillNewCell_74 : decode gb_Equations_fillNewCell 74 = .ok (.aload_n 0, 1) := by decide +kernel
theorem gd_Equations_fillNewCell_75 : decode gb_Equations_fillNewCell 75 = .ok (.getfield 49, 3) := by decide +kernel
theorem gd_Equations_fillNewCell_78 : decode gb_Equations_fillNewCell 78 = .ok (.aload_n 0, 1) := by decide +kernel
theorem gd_Equations_fillNewCell_79 : decode gb_Equations_fillNewCell 79 = .ok (.getfield 46, 3) := by decide +kernel
theorem gd_Equations_fillNewCell_82 : decode gb_Equations_fillNewCell 82 = .ok (.invokevirtual 157, 3) := by decide +kernel
theorem gd_Equations_fillNewCell_85 : decode gb_Equations_fillNewCell 85 = .ok (.goto 75, 3) := by decide +kernel
theorem gd_Equations_fillNewCell_88 : decode gb_Equations_fillNewCell 88 = .ok (.iload_n 3, 1) := by decide +kernel
theorem gd_Equations_fillNewCell_89 : decode gb_Equations_fillNewCell 89 = .ok (.iconst (-1), 1) := by decide +kernel
theorem gd_Equations_fillNewCell_90 : decode gb_Equations_fillNewCell 90 = .ok (.if_icmp .eq 70, 3) := by decide +kernel
theorem gd_Equations_fillNewCell_93 : decode gb_Equations_fillNewCell 93 = .ok (.aload_n 0, 1) := by decide +kernel
theorem gd_Equations_fillNewCell_94 : decode gb_Equations_fillNewCell 94 = .ok (.getfield 20, 3) := by decide +kernel
theorem gd_Equations_fillNewCell_97 : decode gb_Equations_fillNewCell 97 = .ok (.iload_n 3, 1) := by decide +kernel
theorem gd_Equations_fillNewCell_98 : decode gb_Equations_fillNewCell 98 = .ok (.iload_n 1, 1) := by decide +kernel
theorem gd_Equations_fillNewCell_99 : decode gb_Equations_fillNewCell 99 = .ok (.invokestatic 105, 3) := by decide +kernel
theorem gd_Equations_fillNewCell_102 : decode gb_Equations_fillNewCell 102 = .ok (.iaload, 1) := by decide +kernel
theorem gd_Equations_fillNewCell_103 : decode gb_Equations_fillNewCell 103 = .ok (.ifCond .eq 57, 3) := by decide +kernel
theorem gd_Equations_fillNewCell_106 : decode gb_Equations_fillNewCell 106 = .ok (.aload_n 0, 1) := by decide +kernel
theorem gd_Equations_fillNewCell_107 : decode gb_Equations_fillNewCell 107 = .ok (.aload_n 0, 1) := by decide +kernel
theorem gd_Equations_fillNewCell_108 : decode gb_Equations_fillNewCell 108 = .ok (.getfield 39, 3) := by decide +kernel
theorem gd_Equations_fillNewCell_111 : decode gb_Equations_fillNewCell 111 = .ok (.iload_n 3, 1) := by decide +kernel
theorem gd_Equations_fillNewCell_112 : decode gb_Equations_fillNewCell 112 = .ok (.iload_n 1, 1) := by decide +kernel
theorem gd_Equations_fillNewCell_113 : decode gb_Equations_fillNewCell 113 = .ok (.invokevirtual 160, 3) := by decide +kernel
theorem gd_Equations_fillNewCell_116 : decode gb_Equations_fillNewCell 116 = .ok (.aload_n 0, 1) := by decide +kernel
theorem gd_Equations_fillNewCell_117 : decode gb_Equations_fillNewCell 117 = .ok (.getfield 43, 3) := by decide +kernel
theorem gd_Equations_fillNewCell_120 : decode gb_Equations_fillNewCell 120 = .ok (.aload_n 0, 1) := by decide +kernel
theorem gd_Equations_fillNewCell_121 : decode gb_Equations_fillNewCell 121 = .ok (.getfield 29, 3) := by decide +kernel
theorem gd_Equations_fillNewCell_124 : decode gb_Equations_fillNewCell 124 = .ok (.iload_n 2, 1) := by decide +kernel
theorem gd_Equations_fillNewCell_125 : decode gb_Equations_fillNewCell 125 = .ok (.iaload, 1) := by decide +kernel
theorem gd_Equations_fillNewCell_126 : decode gb_Equations_fillNewCell 126 = .ok (.i2l, 1) := by decide +kernel
theorem gd_Equations_fillNewCell_127 : decode gb_Equations_fillNewCell 127 = .ok (.invokevirtual 81, 3) := by decide +kernel
theorem gd_Equations_fillNewCell_130 : decode gb_Equations_fillNewCell 130 = .ok (.aload_n 0, 1) := by decide +kernel
theorem gd_Equations_fillNewCell_131 : decode gb_Equations_fillNewCell 131 = .ok (.getfield 46, 3) := by decide +kernel
theorem gd_Equations_fillNewCell_134 : decode gb_Equations_fillNewCell 134 = .ok (.aload_n 0, 1) := by decide +kernel
theorem gd_Equations_fillNewCell_135 : decode gb_Equations_fillNewCell 135 = .ok (.getfield 39, 3) := by decide +kernel
theorem gd_Equations_fillNewCell_138 : decode gb_Equations_fillNewCell 138 = .ok (.aload_n 0, 1) := by decide +kernel
theorem gd_Equations_fillNewCell_139 : decode gb_Equations_fillNewCell 139 = .ok (.getfield 43, 3) := by decide +kernel
theorem gd_Equations_fillNewCell_142 : decode gb_Equations_fillNewCell 142 = .ok (.invokevirtual 153, 3) := by decide +kernel
theorem gd_Equations_fillNewCell_145 : decode gb_Equations_fillNewCell 145 = .ok (.aload_n 0, 1) := by decide +kernel
theorem gd_Equations_fillNewCell_146 : decode gb_Equations_fillNewCell 146 = .ok (.getfield 49, 3) := by decide +kernel
theorem gd_Equations_fillNewCell_149 : decode gb_Equations_fillNewCell 149 = .ok (.aload_n 0, 1) := by decide +kernel
theorem gd_Equations_fillNewCell_150 : decode gb_Equations_fillNewCell 150 = .ok (.getfield 49, 3) := by decide +kernel
theorem gd_Equations_fillNewCell_153 : decode gb_Equations_fillNewCell 153 = .ok (.aload_n 0, 1) := by decide +kernel
theorem gd_Equations_fillNewCell_154 : decode gb_Equations_fillNewCell 154 = .ok (.getfield 46, 3) := by decide +kernel
theorem gd_Equations_fillNewCell_157 : decode gb_Equations_fillNewCell 157 = .ok (.invokevirtual 157, 3) := by decide +kernel
theorem gd_Equations_fillNewCell_160 : decode gb_Equations_fillNewCell 160 = .ok (.iinc 2 1, 3) := by decide +kernel
theorem gd_Equations_fillNewCell_163 : decode gb_Equations_fillNewCell 163 = .ok (.goto (-153), 3) := by decide +kernel
theorem gd_Equations_fillNewCell_166 : decode gb_Equations_fillNewCell 166 = .ok (.aload_n 0, 1) := by decide +kernel
theorem gd_Equations_fillNewCell_167 : decode gb_Equations_fillNewCell 167 = .ok (.aload_n 0, 1) := by decide +kernel
theorem gd_Equations_fillNewCell_168 : decode gb_Equations_fillNewCell 168 = .ok (.getfield 49, 3) := by decide +kernel
theorem gd_Equations_fillNewCell_171 : decode gb_Equations_fillNewCell 171 = .ok (.aload_n 0, 1) := by decide +kernel
theorem gd_Equations_fillNewCell_172 : decode gb_Equations_fillNewCell 172 = .ok (.getfield 78, 3) := by decide +kernel
theorem gd_Equations_fillNewCell_175 : decode gb_Equations_fillNewCell 175 = .ok (.iload_n 1, 1) := by decide +kernel
theorem gd_Equations_fillNewCell_176 : decode gb_Equations_fillNewCell 176 = .ok (.invokevirtual 164, 3) := by decide +kernel
theorem gd_Equations_fillNewCell_179 : decode gb_Equations_fillNewCell 179 = .ok (.return_, 1) := by decide +kernel
def gf_Equations_fillNewCell_b160 (F : Nat) (z : gw_Sh) (rc_10 : gw_St → Nat → Int32 → Int32 → Option gw_St) (u : gw_St) (t0 : Nat) (x1 : Int32) (x2 : Int32) : Option gw_St :=
  gf_nm (x2 + 1) fun a1 => rc_10 u t0 x1 a1
def gf_Equations_fillNewCell_S10 (F : Nat) (z : gw_Sh)  (rc_10 : gw_St → Nat → Int32 → Int32 → Option gw_St) (u : gw_St) (t0 : Nat) (x1 : Int32) (x2 : Int32) : Option gw_St :=
  if (u.1 t0 13) ≤ x2 then (gf_nn (u.2.2 t0 9) fun q4 => (gf_Equations_store F z u t0 q4 (u.1 t0 15) x1).bind fun u6 => some u6) else (gf_nn (u.2.2 t0 3) fun q8 => gf_nn (u.2.2 t0 4) fun q10 => if (x2 < 0 ∨ z.2.2 q10 ≤ (x2).toNatClampNeg) then none else if ((u.1 q10 (x2).toNatClampNeg) < 0 ∨ z.2.2 q8 ≤ ((u.1 q10 (x2).toNatClampNeg)).toNatClampNeg) then none else gf_nm (u.1 q8 ((u.1 q10 (x2).toNatClampNeg)).toNatClampNeg) fun a14 => gf_nn (u.2.2 t0 4) fun q16 => if (x2 < 0 ∨ z.2.2 q16 ≤ (x2).toNatClampNeg) then none else if (u.1 q16 (x2).toNatClampNeg) = x1 then (gf_nn (u.2.2 t0 7) fun q55 => gf_nn (u.2.2 t0 5) fun q57 => if (x2 < 0 ∨ z.2.2 q57 ≤ (x2).toNatClampNeg) then none else (gf_Whole_setLong F z u q55 (((-(u.1 q57 (x2).toNatClampNeg))).toInt64)).bind fun u60 => gf_nn (u60.2.2 t0 8) fun q62 => gf_nn (u60.2.2 t0 11) fun q64 => gf_nn (u60.2.2 t0 7) fun q66 => (gf_Whole_setProduct F z u60 q62 q64 q66).bind fun u68 => gf_nn (u68.2.2 t0 9) fun q70 => gf_nn (u68.2.2 t0 9) fun q72 => gf_nn (u68.2.2 t0 8) fun q74 => (gf_Whole_setDifference F z u68 q70 q72 q74).bind fun u76 => gf_Equations_fillNewCell_b160 F z rc_10 u76 t0 x1 x2) else (if a14 = (-1 : Int32) then (gf_Equations_fillNewCell_b160 F z rc_10 u t0 x1 x2) else (gf_nn (u.2.2 t0 2) fun q21 => gf_cl (gf_Equations_at F z u a14 x1) fun a25 u23 => if (a25 < 0 ∨ z.2.2 q21 ≤ (a25).toNatClampNeg) then none else if (u23.1 q21 (a25).toNatClampNeg) = 0 then (gf_Equations_fillNewCell_b160 F z rc_10 u23 t0 x1 x2) else (gf_nn (u23.2.2 t0 6) fun q28 => (gf_Equations_load F z u23 t0 q28 a14 x1).bind fun u30 => gf_nn (u30.2.2 t0 7) fun q32 => gf_nn (u30.2.2 t0 5) fun q34 => if (x2 < 0 ∨ z.2.2 q34 ≤ (x2).toNatClampNeg) then none else (gf_Whole_setLong F z u30 q32 (((u30.1 q34 (x2).toNatClampNeg)).toInt64)).bind fun u37 => gf_nn (u37.2.2 t0 8) fun q39 => gf_nn (u37.2.2 t0 6) fun q41 => gf_nn (u37.2.2 t0 7) fun q43 => (gf_Whole_setProduct F z u37 q39 q41 q43).bind fun u45 => gf_nn (u45.2.2 t0 9) fun q47 => gf_nn (u45.2.2 t0 9) fun q49 => gf_nn (u45.2.2 t0 8) fun q51 => (gf_Whole_setDifference F z u45 q47 q49 q51).bind fun u53 => gf_Equations_fillNewCell_b160 F z rc_10 u53 t0 x1 x2))))
def gf_Equations_fillNewCell_L10 (F : Nat) (z : gw_Sh)  : Nat → gw_St → Nat → Int32 → Int32 → Option gw_St
  | 0 => fun _ _ _ _ => none
  | n + 1 => fun u t0 x1 x2 => gf_Equations_fillNewCell_S10 F z  (gf_Equations_fillNewCell_L10 F z  n) u t0 x1 x2
def gf_Equations_fillNewCell_b0 (F : Nat) (z : gw_Sh)  (u : gw_St) (t0 : Nat) (x1 : Int32) : Option gw_St :=
  gf_nn (u.2.2 t0 9) fun q78 => (gf_Whole_setLong F z u q78 (0 : Int64)).bind fun u80 => gf_Equations_fillNewCell_L10 F z  F u80 t0 x1 0
def gf_Equations_fillNewCell (F : Nat) (z : gw_Sh) (u : gw_St) (t0 : Nat) (x1 : Int32) : Option gw_St := gf_Equations_fillNewCell_b0 F z  u t0 x1
set_option maxHeartbeats 4000000 in
set_option maxRecDepth 20000 in
theorem gx_Equations_fillNewCell_b160 {p : Program} {l : Launch} {e : Env} {s : State} {m : MethodId} {args : Array Value} {below : List Frame} {meth : Method} {c : Code} {D : va_G} {cA : Nat → ClassId} {hs : Nat → Nat} {z : gw_Sh} (F : Nat) {r0 : gw_St} (C : gw_Cx p s m args c gb_Equations_fillNewCell 4 R_Equations D cA) (hr : meth.sig.returnType = none) (hk : meth.locks = false) {rc_10 : gw_St → Nat → Int32 → Int32 → Option gw_St} (k_10 : ∀ (u : gw_St) (t0 : Nat) (x1 : Int32) (x2 : Int32) (H : Heap) (locs : List Loc) (ls : Array Slot), gw_ok z t0 4 → gw_Wx D cA hs z s u H locs → lv_has ls 4 [(0, .ref (hs t0)), (1, .int x1), (2, .int x2)] → rc_10 u t0 x1 x2 = some r0 → gw_Gv p l e gr_Equations_fillNewCell s m args below meth c D cA hs z r0 H locs ls 10 []) (u : gw_St) (t0 : Nat) (x1 : Int32) (x2 : Int32) (o_t0 : gw_ok z t0 4) {H : Heap} {locs : List Loc} {ls : Array Slot} (hW : gw_Wx D cA hs z s u H locs) (hl : lv_has ls 4 [(0, .ref (hs t0)), (1, .int x1), (2, .int x2)]) (h : gf_Equations_fillNewCell_b160 F z rc_10  u t0 x1 x2 = some r0) : gw_Gv p l e gr_Equations_fillNewCell s m args below meth c D cA hs z r0 H locs ls 160 [] := by
  obtain ⟨hx, hb, hml, hown, hts, hK⟩ := id C
  unfold gf_Equations_fillNewCell_b160 at h
  obtain ⟨a1, e2⟩ : ∃ y : Int32, y = x2 + 1 := ⟨_, rfl⟩
  have h := gf_nm_ok e2 h
  refine lv_iinc (v := a1) (lv' := [(2, .int a1), (0, .ref (hs t0)), (1, .int x1)]) hx hb gd_Equations_fillNewCell_160 hl (k := 2) rfl (by rw [e2]; rfl) (by decide) rfl (fun ls hl => ?_)
  refine lv_goto (tgt := 10) hx hb gd_Equations_fillNewCell_163 (by decide) ?_
  exact k_10 u t0 x1 a1 _ _ _ o_t0 hW (lv_sub hl [1, 2, 0] rfl) h

set_option maxHeartbeats 4000000 in
set_option maxRecDepth 20000 in
theorem gx_Equations_fillNewCell_S10 {p : Program} {l : Launch} {e : Env} {s : State} {m : MethodId} {args : Array Value} {below : List Frame} {meth : Method} {c : Code} {D : va_G} {cA : Nat → ClassId} {hs : Nat → Nat} {z : gw_Sh} (F : Nat) {r0 : gw_St} (C : gw_Cx p s m args c gb_Equations_fillNewCell 4 R_Equations D cA) (hr : meth.sig.returnType = none) (hk : meth.locks = false) {rc_10 : gw_St → Nat → Int32 → Int32 → Option gw_St} (k_10 : ∀ (u : gw_St) (t0 : Nat) (x1 : Int32) (x2 : Int32) (H : Heap) (locs : List Loc) (ls : Array Slot), gw_ok z t0 4 → gw_Wx D cA hs z s u H locs → lv_has ls 4 [(0, .ref (hs t0)), (1, .int x1), (2, .int x2)] → rc_10 u t0 x1 x2 = some r0 → gw_Gv p l e gr_Equations_fillNewCell s m args below meth c D cA hs z r0 H locs ls 10 []) (u : gw_St) (t0 : Nat) (x1 : Int32) (x2 : Int32) (o_t0 : gw_ok z t0 4) {H : Heap} {locs : List Loc} {ls : Array Slot} (hW : gw_Wx D cA hs z s u H locs) (hl : lv_has ls 4 [(0, .ref (hs t0)), (1, .int x1), (2, .int x2)]) (h : gf_Equations_fillNewCell_S10 F z  rc_10 u t0 x1 x2 = some r0) : gw_Gv p l e gr_Equations_fillNewCell s m args below meth c D cA hs z r0 H locs ls 10 [] := by
  obtain ⟨hx, hb, hml, hown, hts, hK⟩ := id C
  unfold gf_Equations_fillNewCell_S10 at h
  refine lv_iload_n hx hb gd_Equations_fillNewCell_10 rfl (lv_at hl 2 rfl) ?_
  refine lv_aload_n hx hb gd_Equations_fillNewCell_11 rfl (lv_at hl 0 rfl) ?_
  refine gw_geti (k := 13) (ref := R_Equations) C hW o_t0 (by decide) rfl gi_Equations rfl (by decide) rfl rfl gk_224 gd_Equations_fillNewCell_12 ?_
  refine lv_icmp_ge (tgt := 166) hx hb gd_Equations_fillNewCell_15 (by decide) (fun c3 => ?_) (fun c3 => ?_)
  · have h := gf_t c3 h
    refine lv_aload_n hx hb gd_Equations_fillNewCell_166 rfl (lv_at hl 0 rfl) ?_
    refine lv_aload_n hx hb gd_Equations_fillNewCell_167 rfl (lv_at hl 0 rfl) ?_
    obtain ⟨q4, e5, h⟩ := gf_nn_ok h
    refine gw_getr (k := 9) (ty := 8) (ref := R_Equations) C hW o_t0 (by decide) rfl gi_Equations rfl (by decide) rfl rfl gk_248 gd_Equations_fillNewCell_168 e5 ?_
    have o_q4 := hW.ref (d := 8) o_t0 e5 rfl
    refine lv_aload_n hx hb gd_Equations_fillNewCell_171 rfl (lv_at hl 0 rfl) ?_
    refine gw_geti (k := 15) (ref := R_Equations) C hW o_t0 (by decide) rfl gi_Equations rfl (by decide) rfl rfl gk_249 gd_Equations_fillNewCell_172 ?_
    refine lv_iload_n hx hb gd_Equations_fillNewCell_175 rfl (lv_at hl 1 rfl) ?_
    obtain ⟨u6, d7, h⟩ := gf_bd_ok h
    refine gw_callVv (K := R_Equations) (As := [.ref (hs q4), .int (u.1 t0 15), .int x1]) (rest := []) C hW (fun _ h => Or.inr h) hl.1 gm_Equations_store (gc_Equations_store l F o_t0 o_q4 d7 _) gk_250 gk_251 gk_252 o_t0 (by decide) rfl rfl rfl ⟨Nat.le_of_ble_eq_true rfl, Nat.le_of_ble_eq_true rfl⟩ ⟨Nat.zero_le _, Nat.zero_le _⟩ rfl rfl (Nat.le_of_ble_eq_true rfl) gd_Equations_fillNewCell_176 (fun H locs hW => ?_)
    obtain rfl := Option.some.inj h
    exact gw_vret C hW hr hk gd_Equations_fillNewCell_179
  · have h := gf_f c3 h
    refine lv_aload_n hx hb gd_Equations_fillNewCell_18 rfl (lv_at hl 0 rfl) ?_
    obtain ⟨q8, e9, h⟩ := gf_nn_ok h
    refine gw_getr (k := 3) (ty := 10) (ref := R_Equations) C hW o_t0 (by decide) rfl gi_Equations rfl (by decide) rfl rfl gk_253 gd_Equations_fillNewCell_19 e9 ?_
    have o_q8 := hW.ref (d := 10) o_t0 e9 rfl
    refine lv_aload_n hx hb gd_Equations_fillNewCell_22 rfl (lv_at hl 0 rfl) ?_
    obtain ⟨q10, e11, h⟩ := gf_nn_ok h
    refine gw_getr (k := 4) (ty := 10) (ref := R_Equations) C hW o_t0 (by decide) rfl gi_Equations rfl (by decide) rfl rfl gk_223 gd_Equations_fillNewCell_23 e11 ?_
    have o_q10 := hW.ref (d := 10) o_t0 e11 rfl
    refine lv_iload_n hx hb gd_Equations_fillNewCell_26 rfl (lv_at hl 2 rfl) ?_
    obtain ⟨g12, h⟩ := gf_if_ok h
    refine gw_iald C hW o_q10 g12 gd_Equations_fillNewCell_27 ?_
    obtain ⟨g13, h⟩ := gf_if_ok h
    refine gw_iald C hW o_q8 g13 gd_Equations_fillNewCell_28 ?_
    refine lv_topi (fun a14 e15 => ?_)
    have h := gf_nm_ok e15 h
    refine lv_istore_n (lv' := [(3, .int a14), (0, .ref (hs t0)), (1, .int x1), (2, .int x2)]) hx hb gd_Equations_fillNewCell_29 rfl hl (by decide) rfl (fun ls hl => ?_)
    refine lv_aload_n hx hb gd_Equations_fillNewCell_30 rfl (lv_at hl 1 rfl) ?_
    obtain ⟨q16, e17, h⟩ := gf_nn_ok h
    refine gw_getr (k := 4) (ty := 10) (ref := R_Equations) C hW o_t0 (by decide) rfl gi_Equations rfl (by decide) rfl rfl gk_223 gd_Equations_fillNewCell_31 e17 ?_
    have o_q16 := hW.ref (d := 10) o_t0 e17 rfl
    refine lv_iload_n hx hb gd_Equations_fillNewCell_34 rfl (lv_at hl 3 rfl) ?_
    obtain ⟨g18, h⟩ := gf_if_ok h
    refine gw_iald C hW o_q16 g18 gd_Equations_fillNewCell_35 ?_
    refine lv_iload_n hx hb gd_Equations_fillNewCell_36 rfl (lv_at hl 2 rfl) ?_
    refine lv_icmp_ne (tgt := 88) hx hb gd_Equations_fillNewCell_37 (by decide) (fun c19 => ?_) (fun c19 => ?_)
    · have h := gf_f c19 h
      refine lv_iload_n hx hb gd_Equations_fillNewCell_88 rfl (lv_at hl 0 rfl) ?_
      refine lv_iconst (v := (-1)) hx hb gd_Equations_fillNewCell_89 (by decide) ?_
      refine lv_icmp_eq (tgt := 160) hx hb gd_Equations_fillNewCell_90 (by decide) (fun c20 => ?_) (fun c20 => ?_)
      · have h := gf_t c20 h
        exact gx_Equations_fillNewCell_b160 F C hr hk k_10 u t0 x1 x2 o_t0 hW (lv_sub hl [1, 2, 3] rfl) h
      · have h := gf_f c20 h
        refine lv_aload_n hx hb gd_Equations_fillNewCell_93 rfl (lv_at hl 1 rfl) ?_
        obtain ⟨q21, e22, h⟩ := gf_nn_ok h
        refine gw_getr (k := 2) (ty := 10) (ref := R_Equations) C hW o_t0 (by decide) rfl gi_Equations rfl (by decide) rfl rfl gk_237 gd_Equations_fillNewCell_94 e22 ?_
        have o_q21 := hW.ref (d := 10) o_t0 e22 rfl
        refine lv_iload_n hx hb gd_Equations_fillNewCell_97 rfl (lv_at hl 0 rfl) ?_
        refine lv_iload_n hx hb gd_Equations_fillNewCell_98 rfl (lv_at hl 2 rfl) ?_
        obtain ⟨a25, u23, d24, h⟩ := gf_cl_ok h
        refine gw_callSi (As := [.int a14, .int x1]) (rest := [.ref (hs q21)]) C hW (fun _ h => Or.inr h) hl.1 gm_Equations_at (gc_Equations_at l F  d24 _) gk_235 gk_236 rfl rfl ⟨Nat.le_of_ble_eq_true rfl, Nat.le_of_ble_eq_true rfl⟩ ⟨Nat.zero_le _, Nat.zero_le _⟩ rfl rfl (Nat.le_of_ble_eq_true rfl) gd_Equations_fillNewCell_99 (fun H locs hW => ?_)
        obtain ⟨g26, h⟩ := gf_if_ok h
        refine gw_iald C hW o_q21 g26 gd_Equations_fillNewCell_102 ?_
        refine lv_if_eq (tgt := 160) hx hb gd_Equations_fillNewCell_103 (by decide) (fun c27 => ?_) (fun c27 => ?_)
        · have h := gf_t c27 h
          exact gx_Equations_fillNewCell_b160 F C hr hk k_10 u23 t0 x1 x2 o_t0 hW (lv_sub hl [1, 2, 3] rfl) h
        · have h := gf_f c27 h
          refine lv_aload_n hx hb gd_Equations_fillNewCell_106 rfl (lv_at hl 1 rfl) ?_
          refine lv_aload_n hx hb gd_Equations_fillNewCell_107 rfl (lv_at hl 1 rfl) ?_
          obtain ⟨q28, e29, h⟩ := gf_nn_ok h
          refine gw_getr (k := 6) (ty := 8) (ref := R_Equations) C hW o_t0 (by decide) rfl gi_Equations rfl (by decide) rfl rfl gk_254 gd_Equations_fillNewCell_108 e29 ?_
          have o_q28 := hW.ref (d := 8) o_t0 e29 rfl
          refine lv_iload_n hx hb gd_Equations_fillNewCell_111 rfl (lv_at hl 0 rfl) ?_
          refine lv_iload_n hx hb gd_Equations_fillNewCell_112 rfl (lv_at hl 2 rfl) ?_
          obtain ⟨u30, d31, h⟩ := gf_bd_ok h
          refine gw_callVv (K := R_Equations) (As := [.ref (hs q28), .int a14, .int x1]) (rest := []) C hW (fun _ h => Or.inr h) hl.1 gm_Equations_load (gc_Equations_load l F o_t0 o_q28 d31 _) gk_255 gk_256 gk_257 o_t0 (by decide) rfl rfl rfl ⟨Nat.le_of_ble_eq_true rfl, Nat.le_of_ble_eq_true rfl⟩ ⟨Nat.zero_le _, Nat.zero_le _⟩ rfl rfl (Nat.le_of_ble_eq_true rfl) gd_Equations_fillNewCell_113 (fun H locs hW => ?_)
          refine lv_aload_n hx hb gd_Equations_fillNewCell_116 rfl (lv_at hl 1 rfl) ?_
          obtain ⟨q32, e33, h⟩ := gf_nn_ok h
          refine gw_getr (k := 7) (ty := 8) (ref := R_Equations) C hW o_t0 (by decide) rfl gi_Equations rfl (by decide) rfl rfl gk_258 gd_Equations_fillNewCell_117 e33 ?_
          have o_q32 := hW.ref (d := 8) o_t0 e33 rfl
          refine lv_aload_n hx hb gd_Equations_fillNewCell_120 rfl (lv_at hl 1 rfl) ?_
          obtain ⟨q34, e35, h⟩ := gf_nn_ok h
          refine gw_getr (k := 5) (ty := 10) (ref := R_Equations) C hW o_t0 (by decide) rfl gi_Equations rfl (by decide) rfl rfl gk_225 gd_Equations_fillNewCell_121 e35 ?_
          have o_q34 := hW.ref (d := 10) o_t0 e35 rfl
          refine lv_iload_n hx hb gd_Equations_fillNewCell_124 rfl (lv_at hl 3 rfl) ?_
          obtain ⟨g36, h⟩ := gf_if_ok h
          refine gw_iald C hW o_q34 g36 gd_Equations_fillNewCell_125 ?_
          refine lv_i2l hx hb gd_Equations_fillNewCell_126 rfl ?_
          obtain ⟨u37, d38, h⟩ := gf_bd_ok h
          refine gw_callVv (K := R_Whole) (As := [.long (((u30.1 q34 (x2).toNatClampNeg)).toInt64)]) (rest := []) C hW (fun _ h => Or.inr h) hl.1 gm_Whole_setLong (gc_Whole_setLong l F o_q32 d38 _) gk_259 gk_71 gk_72 o_q32 (by decide) rfl rfl rfl ⟨Nat.le_of_ble_eq_true rfl, Nat.le_of_ble_eq_true rfl⟩ ⟨Nat.zero_le _, Nat.zero_le _⟩ rfl rfl (Nat.le_of_ble_eq_true rfl) gd_Equations_fillNewCell_127 (fun H locs hW => ?_)
          refine lv_aload_n hx hb gd_Equations_fillNewCell_130 rfl (lv_at hl 1 rfl) ?_
          obtain ⟨q39, e40, h⟩ := gf_nn_ok h
          refine gw_getr (k := 8) (ty := 8) (ref := R_Equations) C hW o_t0 (by decide) rfl gi_Equations rfl (by decide) rfl rfl gk_260 gd_Equations_fillNewCell_131 e40 ?_
          have o_q39 := hW.ref (d := 8) o_t0 e40 rfl
          refine lv_aload_n hx hb gd_Equations_fillNewCell_134 rfl (lv_at hl 1 rfl) ?_
          obtain ⟨q41, e42, h⟩ := gf_nn_ok h
          refine gw_getr (k := 6) (ty := 8) (ref := R_Equations) C hW o_t0 (by decide) rfl gi_Equations rfl (by decide) rfl rfl gk_254 gd_Equations_fillNewCell_135 e42 ?_
          have o_q41 := hW.ref (d := 8) o_t0 e42 rfl
          refine lv_aload_n hx hb gd_Equations_fillNewCell_138 rfl (lv_at hl 1 rfl) ?_
          obtain ⟨q43, e44, h⟩ := gf_nn_ok h
          refine gw_getr (k := 7) (ty := 8) (ref := R_Equations) C hW o_t0 (by decide) rfl gi_Equations rfl (by decide) rfl rfl gk_258 gd_Equations_fillNewCell_139 e44 ?_
          have o_q43 := hW.ref (d := 8) o_t0 e44 rfl
          obtain ⟨u45, d46, h⟩ := gf_bd_ok h
          refine gw_callVv (K := R_Whole) (As := [.ref (hs q41), .ref (hs q43)]) (rest := []) C hW (fun _ h => Or.inr h) hl.1 gm_Whole_setProduct (gc_Whole_setProduct l F o_q39 o_q41 o_q43 d46 _) gk_261 gk_262 gk_263 o_q39 (by decide) rfl rfl rfl ⟨Nat.le_of_ble_eq_true rfl, Nat.le_of_ble_eq_true rfl⟩ ⟨Nat.zero_le _, Nat.zero_le _⟩ rfl rfl (Nat.le_of_ble_eq_true rfl) gd_Equations_fillNewCell_142 (fun H locs hW => ?_)
          refine lv_aload_n hx hb gd_Equations_fillNewCell_145 rfl (lv_at hl 1 rfl) ?_
          obtain ⟨q47, e48, h⟩ := gf_nn_ok h
          refine gw_getr (k := 9) (ty := 8) (ref := R_Equations) C hW o_t0 (by decide) rfl gi_Equations rfl (by decide) rfl rfl gk_248 gd_Equations_fillNewCell_146 e48 ?_
          have o_q47 := hW.ref (d := 8) o_t0 e48 rfl
          refine lv_aload_n hx hb gd_Equations_fillNewCell_149 rfl (lv_at hl 1 rfl) ?_
          obtain ⟨q49, e50, h⟩ := gf_nn_ok h
          refine gw_getr (k := 9) (ty := 8) (ref := R_Equations) C hW o_t0 (by decide) rfl gi_Equations rfl (by decide) rfl rfl gk_248 gd_Equations_fillNewCell_150 e50 ?_
          have o_q49 := hW.ref (d := 8) o_t0 e50 rfl
          refine lv_aload_n hx hb gd_Equations_fillNewCell_153 rfl (lv_at hl 1 rfl) ?_
          obtain ⟨q51, e52, h⟩ := gf_nn_ok h
          refine gw_getr (k := 8) (ty := 8) (ref := R_Equations) C hW o_t0 (by decide) rfl gi_Equations rfl (by decide) rfl rfl gk_260 gd_Equations_fillNewCell_154 e52 ?_
          have o_q51 := hW.ref (d := 8) o_t0 e52 rfl
          obtain ⟨u53, d54, h⟩ := gf_bd_ok h
          refine gw_callVv (K := R_Whole) (As := [.ref (hs q49), .ref (hs q51)]) (rest := []) C hW (fun _ h => Or.inr h) hl.1 gm_Whole_setDifference (gc_Whole_setDifference l F o_q47 o_q49 o_q51 d54 _) gk_264 gk_265 gk_266 o_q47 (by decide) rfl rfl rfl ⟨Nat.le_of_ble_eq_true rfl, Nat.le_of_ble_eq_true rfl⟩ ⟨Nat.zero_le _, Nat.zero_le _⟩ rfl rfl (Nat.le_of_ble_eq_true rfl) gd_Equations_fillNewCell_157 (fun H locs hW => ?_)
          exact gx_Equations_fillNewCell_b160 F C hr hk k_10 u53 t0 x1 x2 o_t0 hW (lv_sub hl [1, 2, 3] rfl) h
    · have h := gf_t c19 h
      refine lv_aload_n hx hb gd_Equations_fillNewCell_40 rfl (lv_at hl 1 rfl) ?_
      obtain ⟨q55, e56, h⟩ := gf_nn_ok h
      refine gw_getr (k := 7) (ty := 8) (ref := R_Equations) C hW o_t0 (by decide) rfl gi_Equations rfl (by decide) rfl rfl gk_258 gd_Equations_fillNewCell_41 e56 ?_
      have o_q55 := hW.ref (d := 8) o_t0 e56 rfl
      refine lv_aload_n hx hb gd_Equations_fillNewCell_44 rfl (lv_at hl 1 rfl) ?_
      obtain ⟨q57, e58, h⟩ := gf_nn_ok h
      refine gw_getr (k := 5) (ty := 10) (ref := R_Equations) C hW o_t0 (by decide) rfl gi_Equations rfl (by decide) rfl rfl gk_225 gd_Equations_fillNewCell_45 e58 ?_
      have o_q57 := hW.ref (d := 10) o_t0 e58 rfl
      refine lv_iload_n hx hb gd_Equations_fillNewCell_48 rfl (lv_at hl 3 rfl) ?_
      obtain ⟨g59, h⟩ := gf_if_ok h
      refine gw_iald C hW o_q57 g59 gd_Equations_fillNewCell_49 ?_
      refine lv_ineg hx hb gd_Equations_fillNewCell_50 ?_
      refine lv_i2l hx hb gd_Equations_fillNewCell_51 rfl ?_
      obtain ⟨u60, d61, h⟩ := gf_bd_ok h
      refine gw_callVv (K := R_Whole) (As := [.long (((-(u.1 q57 (x2).toNatClampNeg))).toInt64)]) (rest := []) C hW (fun _ h => Or.inr h) hl.1 gm_Whole_setLong (gc_Whole_setLong l F o_q55 d61 _) gk_259 gk_71 gk_72 o_q55 (by decide) rfl rfl rfl ⟨Nat.le_of_ble_eq_true rfl, Nat.le_of_ble_eq_true rfl⟩ ⟨Nat.zero_le _, Nat.zero_le _⟩ rfl rfl (Nat.le_of_ble_eq_true rfl) gd_Equations_fillNewCell_52 (fun H locs hW => ?_)
      refine lv_aload_n hx hb gd_Equations_fillNewCell_55 rfl (lv_at hl 1 rfl) ?_
      obtain ⟨q62, e63, h⟩ := gf_nn_ok h
      refine gw_getr (k := 8) (ty := 8) (ref := R_Equations) C hW o_t0 (by decide) rfl gi_Equations rfl (by decide) rfl rfl gk_260 gd_Equations_fillNewCell_56 e63 ?_
      have o_q62 := hW.ref (d := 8) o_t0 e63 rfl
      refine lv_aload_n hx hb gd_Equations_fillNewCell_59 rfl (lv_at hl 1 rfl) ?_
      obtain ⟨q64, e65, h⟩ := gf_nn_ok h
      refine gw_getr (k := 11) (ty := 8) (ref := R_Equations) C hW o_t0 (by decide) rfl gi_Equations rfl (by decide) rfl rfl gk_267 gd_Equations_fillNewCell_60 e65 ?_
      have o_q64 := hW.ref (d := 8) o_t0 e65 rfl
      refine lv_aload_n hx hb gd_Equations_fillNewCell_63 rfl (lv_at hl 1 rfl) ?_
      obtain ⟨q66, e67, h⟩ := gf_nn_ok h
      refine gw_getr (k := 7) (ty := 8) (ref := R_Equations) C hW o_t0 (by decide) rfl gi_Equations rfl (by decide) rfl rfl gk_258 gd_Equations_fillNewCell_64 e67 ?_
      have o_q66 := hW.ref (d := 8) o_t0 e67 rfl
      obtain ⟨u68, d69, h⟩ := gf_bd_ok h
      refine gw_callVv (K := R_Whole) (As := [.ref (hs q64), .ref (hs q66)]) (rest := []) C hW (fun _ h => Or.inr h) hl.1 gm_Whole_setProduct (gc_Whole_setProduct l F o_q62 o_q64 o_q66 d69 _) gk_261 gk_262 gk_263 o_q62 (by decide) rfl rfl rfl ⟨Nat.le_of_ble_eq_true rfl, Nat.le_of_ble_eq_true rfl⟩ ⟨Nat.zero_le _, Nat.zero_le _⟩ rfl rfl (Nat.le_of_ble_eq_true rfl) gd_Equations_fillNewCell_67 (fun H locs hW => ?_)
      refine lv_aload_n hx hb gd_Equations_fillNewCell_70 rfl (lv_at hl 1 rfl) ?_
      obtain ⟨q70, e71, h⟩ := gf_nn_ok h
      refine gw_getr (k := 9) (ty := 8) (ref := R_Equations) C hW o_t0 (by decide) rfl gi_Equations rfl (by decide) rfl rfl gk_248 gd_Equations_fillNewCell_71 e71 ?_
      have o_q70 := hW.ref (d := 8) o_t0 e71 rfl
      refine lv_aload_n hx hb gd_Equations_fillNewCell_74 rfl (lv_at hl 1 rfl) ?_
      obtain ⟨q72, e73, h⟩ := gf_nn_ok h
      refine gw_getr (k := 9) (ty := 8) (ref := R_Equations) C hW o_t0 (by decide) rfl gi_Equations rfl (by decide) rfl rfl gk_248 gd_Equations_fillNewCell_75 e73 ?_
      have o_q72 := hW.ref (d := 8) o_t0 e73 rfl
      refine lv_aload_n hx hb gd_Equations_fillNewCell_78 rfl (lv_at hl 1 rfl) ?_
      obtain ⟨q74, e75, h⟩ := gf_nn_ok h
      refine gw_getr (k := 8) (ty := 8) (ref := R_Equations) C hW o_t0 (by decide) rfl gi_Equations rfl (by decide) rfl rfl gk_260 gd_Equations_fillNewCell_79 e75 ?_
      have o_q74 := hW.ref (d := 8) o_t0 e75 rfl
      obtain ⟨u76, d77, h⟩ := gf_bd_ok h
      refine gw_callVv (K := R_Whole) (As := [.ref (hs q72), .ref (hs q74)]) (rest := []) C hW (fun _ h => Or.inr h) hl.1 gm_Whole_setDifference (gc_Whole_setDifference l F o_q70 o_q72 o_q74 d77 _) gk_264 gk_265 gk_266 o_q70 (by decide) rfl rfl rfl ⟨Nat.le_of_ble_eq_true rfl, Nat.le_of_ble_eq_true rfl⟩ ⟨Nat.zero_le _, Nat.zero_le _⟩ rfl rfl (Nat.le_of_ble_eq_true rfl) gd_Equations_fillNewCell_82 (fun H locs hW => ?_)
      refine lv_goto (tgt := 160) hx hb gd_Equations_fillNewCell_85 (by decide) ?_
      exact gx_Equations_fillNewCell_b160 F C hr hk k_10 u76 t0 x1 x2 o_t0 hW (lv_sub hl [1, 2, 3] rfl) h
set_option maxHeartbeats 4000000 in
set_option maxRecDepth 20000 in
theorem gx_Equations_fillNewCell_L10 {p : Program} {l : Launch} {e : Env} {s : State} {m : MethodId} {args : Array Value} {below : List Frame} {meth : Method} {c : Code} {D : va_G} {cA : Nat → ClassId} {hs : Nat → Nat} {z : gw_Sh} (F : Nat) {r0 : gw_St} (C : gw_Cx p s m args c gb_Equations_fillNewCell 4 R_Equations D cA) (hr : meth.sig.returnType = none) (hk : meth.locks = false) : ∀ (n : Nat), ∀ (u : gw_St) (t0 : Nat) (x1 : Int32) (x2 : Int32) (H : Heap) (locs : List Loc) (ls : Array Slot), gw_ok z t0 4 → gw_Wx D cA hs z s u H locs → lv_has ls 4 [(0, .ref (hs t0)), (1, .int x1), (2, .int x2)] → gf_Equations_fillNewCell_L10 F z  n u t0 x1 x2 = some r0 → gw_Gv p l e gr_Equations_fillNewCell s m args below meth c D cA hs z r0 H locs ls 10 [] := by
  intro n
  induction n with
  | zero =>
    intro u t0 x1 x2 H locs ls o_t0 hW hl h
    cases h
  | succ n ih =>
    intro u t0 x1 x2 H locs ls o_t0 hW hl h
    exact gx_Equations_fillNewCell_S10 F C hr hk  ih u t0 x1 x2 o_t0 hW hl h

set_option maxHeartbeats 4000000 in
set_option maxRecDepth 20000 in
theorem gx_Equations_fillNewCell_b0 {p : Program} {l : Launch} {e : Env} {s : State} {m : MethodId} {args : Array Value} {below : List Frame} {meth : Method} {c : Code} {D : va_G} {cA : Nat → ClassId} {hs : Nat → Nat} {z : gw_Sh} (F : Nat) {r0 : gw_St} (C : gw_Cx p s m args c gb_Equations_fillNewCell 4 R_Equations D cA) (hr : meth.sig.returnType = none) (hk : meth.locks = false) (u : gw_St) (t0 : Nat) (x1 : Int32) (o_t0 : gw_ok z t0 4) {H : Heap} {locs : List Loc} {ls : Array Slot} (hW : gw_Wx D cA hs z s u H locs) (hl : lv_has ls 4 [(0, .ref (hs t0)), (1, .int x1)]) (h : gf_Equations_fillNewCell_b0 F z   u t0 x1 = some r0) : gw_Gv p l e gr_Equations_fillNewCell s m args below meth c D cA hs z r0 H locs ls 0 [] := by
  obtain ⟨hx, hb, hml, hown, hts, hK⟩ := id C
  unfold gf_Equations_fillNewCell_b0 at h
  refine lv_aload_n hx hb gd_Equations_fillNewCell_0 rfl (lv_at hl 0 rfl) ?_
  obtain ⟨q78, e79, h⟩ := gf_nn_ok h
  refine gw_getr (k := 9) (ty := 8) (ref := R_Equations) C hW o_t0 (by decide) rfl gi_Equations rfl (by decide) rfl rfl gk_248 gd_Equations_fillNewCell_1 e79 ?_
  have o_q78 := hW.ref (d := 8) o_t0 e79 rfl
  refine lv_lconst (v := 0) hx hb gd_Equations_fillNewCell_4 (by decide) ?_
  obtain ⟨u80, d81, h⟩ := gf_bd_ok h
  refine gw_callVv (K := R_Whole) (As := [.long (0 : Int64)]) (rest := []) C hW (fun _ h => Or.inr h) hl.1 gm_Whole_setLong (gc_Whole_setLong l F o_q78 d81 _) gk_259 gk_71 gk_72 o_q78 (by decide) rfl rfl rfl ⟨Nat.le_of_ble_eq_true rfl, Nat.le_of_ble_eq_true rfl⟩ ⟨Nat.zero_le _, Nat.zero_le _⟩ rfl rfl (Nat.le_of_ble_eq_true rfl) gd_Equations_fillNewCell_5 (fun H locs hW => ?_)
  refine lv_iconst (v := 0) hx hb gd_Equations_fillNewCell_8 (by decide) ?_
  refine lv_istore_n (lv' := [(2, .int 0), (0, .ref (hs t0)), (1, .int x1)]) hx hb gd_Equations_fillNewCell_9 rfl hl (by decide) rfl (fun ls hl => ?_)
  exact gx_Equations_fillNewCell_L10 F C hr hk  F u80 t0 x1 0 _ _ _ o_t0 hW (lv_sub hl [1, 2, 0] rfl) h

set_option maxRecDepth 20000 in
theorem gc_Equations_fillNewCell (l : Launch) {D : va_G} {cA : Nat → ClassId} {hs : Nat → Nat} {z : gw_Sh} (F : Nat) {u : gw_St} {r0 : gw_St} {t0 : Nat} {x1 : Int32} (o_t0 : gw_ok z t0 4) (h : gf_Equations_fillNewCell F z u t0 x1 = some r0) (sz : Nat) : gw_Mv l gy_Equations_fillNewCell gb_Equations_fillNewCell 4 none gr_Equations_fillNewCell [.ref (hs t0), .int x1] D cA hs z u sz r0 := by
  refine gw_enter (by decide) (Nat.le_of_ble_eq_true rfl) ?_
  intro p e s m below meth c ls hsz C hW hr hk _ hl
  subst hsz
  exact gx_Equations_fillNewCell_b0 F C hr hk u t0 x1 o_t0 hW (lv_sub hl [0, 1] rfl) h
-- GearDesk$Equations.makeNewRow()I
theorem gk_269 : Cond.fieldLink R_Equations 71 R_Equations "columns" "I" ∈ gt_T := gt_m1 (List.mem_of_getElem? (i := 229) rfl) rfl
theorem gk_270 : Cond.methodLink R_Equations 150 gy_Equations_fillNewCell ∈ gt_T := gt_m5 (List.mem_of_getElem? (i := 57) rfl) rfl
theorem gk_271 : Cond.instanceMethod gy_Equations_fillNewCell ∈ gt_T := gt_m5 (List.mem_of_getElem? (i := 59) rfl) rfl
theorem gk_272 : Cond.selects R_Equations gy_Equations_fillNewCell gy_Equations_fillNewCell ∈ gt_T := gt_p2 (List.mem_of_getElem? (i := 6) rfl) rfl
theorem gk_273 : Cond.fieldLink R_Equations 77 R_Equations "crank" "I" ∈ gt_T := gt_m1 (List.mem_of_getElem? (i := 231) rfl) rfl
def gy_Equations_makeNewRow : MethodName := ⟨R_Equations, "makeNewRow", "()I"⟩
abbrev gb_Equations_makeNewRow : ByteArray := prog_3_method_6_code
theorem gk_274 : Cond.code gy_Equations_makeNewRow gb_Equations_makeNewRow 3 (some .int) ∈ gt_T := gt_m5 (List.mem_of_getElem? (i := 56) rfl) rfl
def gr_Equations_makeNewRow : Room := gw_rm 5 164
theorem gm_Equations_makeNewRow : gw_Mth gy_Equations_makeNewRow gb_Equations_makeNewRow 3 (some .int) 0 := ⟨gk_274, gk_226, ⟨by decide +kernel, by decide +kernel⟩, by decide +kernel⟩
theorem gd_Equations_makeNewRow_0 : decode gb_Equations_makeNewRow 0 = .ok (.iconst (-1), 1) := by decide +kernel
theorem gd_Equations_makeNewRow_1 : decode gb_Equations_makeNewRow 1 = .ok (.istore_n 1, 1) := by decide +kernel
theorem gd_Equations_makeNewRow_2 : decode gb_Equations_makeNewRow 2 = .ok (.iconst 0, 1) := by decide +kernel
theorem gd_Equations_makeNewRow_3 : decode gb_Equations_makeNewRow 3 = .ok (.istore_n 2, 1) := by decide +kernel
theorem gd_Equations_makeNewRow_4 : decode gb_Equations_makeNewRow 4 = .ok (.iload_n 2, 1) := by decide +kernel
theorem gd_Equations_makeNewRow_5 : decode gb_Equations_makeNewRow 5 = .ok (.aload_n 0, 1) := by decide +kernel
theorem gd_Equations_makeNewRow_6 : decode gb_Equations_makeNewRow 6 = .ok (.getfield 71, 3) := by decide +kernel
theorem gd_Equations_makeNewRow_9 : decode gb_Equations_makeNewRow 9 = .ok (.if_icmp .ge 55, 3) := by decide +kernel
theorem gd_Equations_makeNewRow_12 : decode gb_Equations_makeNewRow 12 = .ok (.aload_n 0, 1) := by decide +kernel
theorem gd_Equations_makeNewRow_13 : decode gb_Equations_makeNewRow 13 = .ok (.getfield 23, 3) := by decide +kernel
theorem gd_Equations_makeNewRow_16 : decode gb_Equations_makeNewRow 16 = .ok (.iload_n 2, 1) := by decide +kernel
theorem gd_Equations_makeNewRow_17 : decode gb_Equations_makeNewRow 17 = .ok (.iaload, 1) := by decide +kernel
theorem gd_Equations_makeNewRow_18 : decode gb_Equations_makeNewRow 18 = .ok (.iconst (-1), 1) := by decide +kernel
theorem gd_Equations_makeNewRow_19 : decode gb_Equations_makeNewRow 19 = .ok (.if_icmp .ne 39, 3) := by decide +kernel
theorem gd_Equations_makeNewRow_22 : decode gb_Equations_makeNewRow 22 = .ok (.aload_n 0, 1) := by decide +kernel
theorem gd_Equations_makeNewRow_23 : decode gb_Equations_makeNewRow 23 = .ok (.iload_n 2, 1) := by decide +kernel
theorem gd_Equations_makeNewRow_24 : decode gb_Equations_makeNewRow 24 = .ok (.invokevirtual 150, 3) := by decide +kernel
theorem gd_Equations_makeNewRow_27 : decode gb_Equations_makeNewRow 27 = .ok (.iload_n 1, 1) := by decide +kernel
theorem gd_Equations_makeNewRow_28 : decode gb_Equations_makeNewRow 28 = .ok (.iconst (-1), 1) := by decide +kernel
theorem gd_Equations_makeNewRow_29 : decode gb_Equations_makeNewRow 29 = .ok (.if_icmp .ne 29, 3) := by decide +kernel
theorem gd_Equations_makeNewRow_32 : decode gb_Equations_makeNewRow 32 = .ok (.iload_n 2, 1) := by decide +kernel
theorem gd_Equations_makeNewRow_33 : decode gb_Equations_makeNewRow 33 = .ok (.aload_n 0, 1) := by decide +kernel
theorem gd_Equations_makeNewRow_34 : decode gb_Equations_makeNewRow 34 = .ok (.getfield 77, 3) := by decide +kernel
theorem gd_Equations_makeNewRow_37 : decode gb_Equations_makeNewRow 37 = .ok (.if_icmp .eq 21, 3) := by decide +kernel
theorem gd_Equations_makeNewRow_40 : decode gb_Equations_makeNewRow 40 = .ok (.aload_n 0, 1) := by decide +kernel
theorem gd_Equations_makeNewRow_41 : decode gb_Equations_makeNewRow 41 = .ok (.getfield 20, 3) := by decide +kernel
theorem gd_Equations_makeNewRow_44 : decode gb_Equations_makeNewRow 44 = .ok (.aload_n 0, 1) := by decide +kernel
theorem gd_Equations_makeNewRow_45 : decode gb_Equations_makeNewRow 45 = .ok (.getfield 78, 3) := by decide +kernel
theorem gd_Equations_makeNewRow_48 : decode gb_Equations_makeNewRow 48 = .ok (.iload_n 2, 1) := by decide +kernel
theorem gd_Equations_makeNewRow_49 : decode gb_Equations_makeNewRow 49 = .ok (.invokestatic 105, 3) := by decide +kernel
theorem gd_Equations_makeNewRow_52 : decode gb_Equations_makeNewRow 52 = .ok (.iaload, 1) := by decide +kernel
theorem gd_Equations_makeNewRow_53 : decode gb_Equations_makeNewRow 53 = .ok (.ifCond .eq 5, 3) := by decide +kernel
theorem gd_Equations_makeNewRow_56 : decode gb_Equations_makeNewRow 56 = .ok (.iload_n 2, 1) := by decide +kernel
theorem gd_Equations_makeNewRow_57 : decode gb_Equations_makeNewRow 57 = .ok (.istore_n 1, 1) := by decide +kernel
theorem gd_Equations_makeNewRow_58 : decode gb_Equations_makeNewRow 58 = .ok (.iinc 2 1, 3) := by decide +kernel
theorem gd_Equations_makeNewRow_61 : decode gb_Equations_makeNewRow 61 = .ok (.goto (-57), 3) := by decide +kernel
theorem gd_Equations_makeNewRow_64 : decode gb_Equations_makeNewRow 64 = .ok (.iload_n 1, 1) := by decide +kernel
theorem gd_Equations_makeNewRow_65 : decode gb_Equations_makeNewRow 65 = .ok (.ireturn, 1) := by decide +kernel
def gf_Equations_makeNewRow_b58 (F : Nat) (z : gw_Sh) (rc_4 : gw_St → Nat → Int32 → Int32 → Option (Int32 × gw_St)) (u : gw_St) (t0 : Nat) (x1 : Int32) (x2 : Int32) : Option (Int32 × gw_St) :=
  gf_nm (x2 + 1) fun a1 => rc_4 u t0 x1 a1
def gf_Equations_makeNewRow_S4 (F : Nat) (z : gw_Sh)  (rc_4 : gw_St → Nat → Int32 → Int32 → Option (Int32 × gw_St)) (u : gw_St) (t0 : Nat) (x1 : Int32) (x2 : Int32) : Option (Int32 × gw_St) :=
  if (u.1 t0 14) ≤ x2 then (some (x1, u)) else (gf_nn (u.2.2 t0 3) fun q4 => if (x2 < 0 ∨ z.2.2 q4 ≤ (x2).toNatClampNeg) then none else if (u.1 q4 (x2).toNatClampNeg) = (-1 : Int32) then ((gf_Equations_fillNewCell F z u t0 x2).bind fun u8 => if x1 = (-1 : Int32) then (if x2 = (u8.1 t0 16) then (gf_Equations_makeNewRow_b58 F z rc_4 u8 t0 x1 x2) else (gf_nn (u8.2.2 t0 2) fun q12 => gf_cl (gf_Equations_at F z u8 (u8.1 t0 15) x2) fun a16 u14 => if (a16 < 0 ∨ z.2.2 q12 ≤ (a16).toNatClampNeg) then none else if (u14.1 q12 (a16).toNatClampNeg) = 0 then (gf_Equations_makeNewRow_b58 F z rc_4 u14 t0 x1 x2) else (gf_Equations_makeNewRow_b58 F z rc_4 u14 t0 x2 x2))) else (gf_Equations_makeNewRow_b58 F z rc_4 u8 t0 x1 x2)) else (gf_Equations_makeNewRow_b58 F z rc_4 u t0 x1 x2))
def gf_Equations_makeNewRow_L4 (F : Nat) (z : gw_Sh)  : Nat → gw_St → Nat → Int32 → Int32 → Option (Int32 × gw_St)
  | 0 => fun _ _ _ _ => none
  | n + 1 => fun u t0 x1 x2 => gf_Equations_makeNewRow_S4 F z  (gf_Equations_makeNewRow_L4 F z  n) u t0 x1 x2
def gf_Equations_makeNewRow_b0 (F : Nat) (z : gw_Sh)  (u : gw_St) (t0 : Nat) : Option (Int32 × gw_St) :=
  gf_Equations_makeNewRow_L4 F z  F u t0 (-1) 0
def gf_Equations_makeNewRow (F : Nat) (z : gw_Sh) (u : gw_St) (t0 : Nat) : Option (Int32 × gw_St) := gf_Equations_makeNewRow_b0 F z  u t0
set_option maxHeartbeats 4000000 in
set_option maxRecDepth 20000 in
theorem gx_Equations_makeNewRow_b58 {p : Program} {l : Launch} {e : Env} {s : State} {m : MethodId} {args : Array Value} {below : List Frame} {meth : Method} {c : Code} {D : va_G} {cA : Nat → ClassId} {hs : Nat → Nat} {z : gw_Sh} (F : Nat) {r0 : (Int32 × gw_St)} (C : gw_Cx p s m args c gb_Equations_makeNewRow 3 R_Equations D cA) (hr : meth.sig.returnType = (some .int)) (hk : meth.locks = false) {rc_4 : gw_St → Nat → Int32 → Int32 → Option (Int32 × gw_St)} (k_4 : ∀ (u : gw_St) (t0 : Nat) (x1 : Int32) (x2 : Int32) (H : Heap) (locs : List Loc) (ls : Array Slot), gw_ok z t0 4 → gw_Wx D cA hs z s u H locs → lv_has ls 3 [(0, .ref (hs t0)), (1, .int x1), (2, .int x2)] → rc_4 u t0 x1 x2 = some r0 → gw_Gi p l e gr_Equations_makeNewRow s m args below meth c D cA hs z r0 H locs ls 4 []) (u : gw_St) (t0 : Nat) (x1 : Int32) (x2 : Int32) (o_t0 : gw_ok z t0 4) {H : Heap} {locs : List Loc} {ls : Array Slot} (hW : gw_Wx D cA hs z s u H locs) (hl : lv_has ls 3 [(0, .ref (hs t0)), (1, .int x1), (2, .int x2)]) (h : gf_Equations_makeNewRow_b58 F z rc_4  u t0 x1 x2 = some r0) : gw_Gi p l e gr_Equations_makeNewRow s m args below meth c D cA hs z r0 H locs ls 58 [] := by
  obtain ⟨hx, hb, hml, hown, hts, hK⟩ := id C
  unfold gf_Equations_makeNewRow_b58 at h
  obtain ⟨a1, e2⟩ : ∃ y : Int32, y = x2 + 1 := ⟨_, rfl⟩
  have h := gf_nm_ok e2 h
  refine lv_iinc (v := a1) (lv' := [(2, .int a1), (0, .ref (hs t0)), (1, .int x1)]) hx hb gd_Equations_makeNewRow_58 hl (k := 2) rfl (by rw [e2]; rfl) (by decide) rfl (fun ls hl => ?_)
  refine lv_goto (tgt := 4) hx hb gd_Equations_makeNewRow_61 (by decide) ?_
  exact k_4 u t0 x1 a1 _ _ _ o_t0 hW (lv_sub hl [1, 2, 0] rfl) h

set_option maxHeartbeats 4000000 in
set_option maxRecDepth 20000 in
theorem gx_Equations_makeNewRow_S4 {p : Program} {l : Launch} {e : Env} {s : State} {m : MethodId} {args : Array Value} {below : List Frame} {meth : Method} {c : Code} {D : va_G} {cA : Nat → ClassId} {hs : Nat → Nat} {z : gw_Sh} (F : Nat) {r0 : (Int32 × gw_St)} (C : gw_Cx p s m args c gb_Equations_makeNewRow 3 R_Equations D cA) (hr : meth.sig.returnType = (some .int)) (hk : meth.locks = false) {rc_4 : gw_St → Nat → Int32 → Int32 → Option (Int32 × gw_St)} (k_4 : ∀ (u : gw_St) (t0 : Nat) (x1 : Int32) (x2 : Int32) (H : Heap) (locs : List Loc) (ls : Array Slot), gw_ok z t0 4 → gw_Wx D cA hs z s u H locs → lv_has ls 3 [(0, .ref (hs t0)), (1, .int x1), (2, .int x2)] → rc_4 u t0 x1 x2 = some r0 → gw_Gi p l e gr_Equations_makeNewRow s m args below meth c D cA hs z r0 H locs ls 4 []) (u : gw_St) (t0 : Nat) (x1 : Int32) (x2 : Int32) (o_t0 : gw_ok z t0 4) {H : Heap} {locs : List Loc} {ls : Array Slot} (hW : gw_Wx D cA hs z s u H locs) (hl : lv_has ls 3 [(0, .ref (hs t0)), (1, .int x1), (2, .int x2)]) (h : gf_Equations_makeNewRow_S4 F z  rc_4 u t0 x1 x2 = some r0) : gw_Gi p l e gr_Equations_makeNewRow s m args below meth c D cA hs z r0 H locs ls 4 [] := by
  obtain ⟨hx, hb, hml, hown, hts, hK⟩ := id C
  unfold gf_Equations_makeNewRow_S4 at h
  refine lv_iload_n hx hb gd_Equations_makeNewRow_4 rfl (lv_at hl 2 rfl) ?_
  refine lv_aload_n hx hb gd_Equations_makeNewRow_5 rfl (lv_at hl 0 rfl) ?_
  refine gw_geti (k := 14) (ref := R_Equations) C hW o_t0 (by decide) rfl gi_Equations rfl (by decide) rfl rfl gk_269 gd_Equations_makeNewRow_6 ?_
  refine lv_icmp_ge (tgt := 64) hx hb gd_Equations_makeNewRow_9 (by decide) (fun c3 => ?_) (fun c3 => ?_)
  · have h := gf_t c3 h
    refine lv_iload_n hx hb gd_Equations_makeNewRow_64 rfl (lv_at hl 1 rfl) ?_
    obtain rfl := Option.some.inj h
    exact gw_iret C hW hr hk gd_Equations_makeNewRow_65
  · have h := gf_f c3 h
    refine lv_aload_n hx hb gd_Equations_makeNewRow_12 rfl (lv_at hl 0 rfl) ?_
    obtain ⟨q4, e5, h⟩ := gf_nn_ok h
    refine gw_getr (k := 3) (ty := 10) (ref := R_Equations) C hW o_t0 (by decide) rfl gi_Equations rfl (by decide) rfl rfl gk_253 gd_Equations_makeNewRow_13 e5 ?_
    have o_q4 := hW.ref (d := 10) o_t0 e5 rfl
    refine lv_iload_n hx hb gd_Equations_makeNewRow_16 rfl (lv_at hl 2 rfl) ?_
    obtain ⟨g6, h⟩ := gf_if_ok h
    refine gw_iald C hW o_q4 g6 gd_Equations_makeNewRow_17 ?_
    refine lv_iconst (v := (-1)) hx hb gd_Equations_makeNewRow_18 (by decide) ?_
    refine lv_icmp_ne (tgt := 58) hx hb gd_Equations_makeNewRow_19 (by decide) (fun c7 => ?_) (fun c7 => ?_)
    · have h := gf_f c7 h
      exact gx_Equations_makeNewRow_b58 F C hr hk k_4 u t0 x1 x2 o_t0 hW (lv_sub hl [0, 1, 2] rfl) h
    · have h := gf_t c7 h
      refine lv_aload_n hx hb gd_Equations_makeNewRow_22 rfl (lv_at hl 0 rfl) ?_
      refine lv_iload_n hx hb gd_Equations_makeNewRow_23 rfl (lv_at hl 2 rfl) ?_
      obtain ⟨u8, d9, h⟩ := gf_bd_ok h
      refine gw_callVv (K := R_Equations) (As := [.int x2]) (rest := []) C hW (fun _ h => Or.inr h) hl.1 gm_Equations_fillNewCell (gc_Equations_fillNewCell l F o_t0 d9 _) gk_270 gk_271 gk_272 o_t0 (by decide) rfl rfl rfl ⟨Nat.le_of_ble_eq_true rfl, Nat.le_of_ble_eq_true rfl⟩ ⟨Nat.zero_le _, Nat.zero_le _⟩ rfl rfl (Nat.le_of_ble_eq_true rfl) gd_Equations_makeNewRow_24 (fun H locs hW => ?_)
      refine lv_iload_n hx hb gd_Equations_makeNewRow_27 rfl (lv_at hl 1 rfl) ?_
      refine lv_iconst (v := (-1)) hx hb gd_Equations_makeNewRow_28 (by decide) ?_
      refine lv_icmp_ne (tgt := 58) hx hb gd_Equations_makeNewRow_29 (by decide) (fun c10 => ?_) (fun c10 => ?_)
      · have h := gf_f c10 h
        exact gx_Equations_makeNewRow_b58 F C hr hk k_4 u8 t0 x1 x2 o_t0 hW (lv_sub hl [0, 1, 2] rfl) h
      · have h := gf_t c10 h
        refine lv_iload_n hx hb gd_Equations_makeNewRow_32 rfl (lv_at hl 2 rfl) ?_
        refine lv_aload_n hx hb gd_Equations_makeNewRow_33 rfl (lv_at hl 0 rfl) ?_
        refine gw_geti (k := 16) (ref := R_Equations) C hW o_t0 (by decide) rfl gi_Equations rfl (by decide) rfl rfl gk_273 gd_Equations_makeNewRow_34 ?_
        refine lv_icmp_eq (tgt := 58) hx hb gd_Equations_makeNewRow_37 (by decide) (fun c11 => ?_) (fun c11 => ?_)
        · have h := gf_t c11 h
          exact gx_Equations_makeNewRow_b58 F C hr hk k_4 u8 t0 x1 x2 o_t0 hW (lv_sub hl [0, 1, 2] rfl) h
        · have h := gf_f c11 h
          refine lv_aload_n hx hb gd_Equations_makeNewRow_40 rfl (lv_at hl 0 rfl) ?_
          obtain ⟨q12, e13, h⟩ := gf_nn_ok h
          refine gw_getr (k := 2) (ty := 10) (ref := R_Equations) C hW o_t0 (by decide) rfl gi_Equations rfl (by decide) rfl rfl gk_237 gd_Equations_makeNewRow_41 e13 ?_
          have o_q12 := hW.ref (d := 10) o_t0 e13 rfl
          refine lv_aload_n hx hb gd_Equations_makeNewRow_44 rfl (lv_at hl 0 rfl) ?_
          refine gw_geti (k := 15) (ref := R_Equations) C hW o_t0 (by decide) rfl gi_Equations rfl (by decide) rfl rfl gk_249 gd_Equations_makeNewRow_45 ?_
          refine lv_iload_n hx hb gd_Equations_makeNewRow_48 rfl (lv_at hl 2 rfl) ?_
          obtain ⟨a16, u14, d15, h⟩ := gf_cl_ok h
          refine gw_callSi (As := [.int (u8.1 t0 15), .int x2]) (rest := [.ref (hs q12)]) C hW (fun _ h => Or.inr h) hl.1 gm_Equations_at (gc_Equations_at l F  d15 _) gk_235 gk_236 rfl rfl ⟨Nat.le_of_ble_eq_true rfl, Nat.le_of_ble_eq_true rfl⟩ ⟨Nat.zero_le _, Nat.zero_le _⟩ rfl rfl (Nat.le_of_ble_eq_true rfl) gd_Equations_makeNewRow_49 (fun H locs hW => ?_)
          obtain ⟨g17, h⟩ := gf_if_ok h
          refine gw_iald C hW o_q12 g17 gd_Equations_makeNewRow_52 ?_
          refine lv_if_eq (tgt := 58) hx hb gd_Equations_makeNewRow_53 (by decide) (fun c18 => ?_) (fun c18 => ?_)
          · have h := gf_t c18 h
            exact gx_Equations_makeNewRow_b58 F C hr hk k_4 u14 t0 x1 x2 o_t0 hW (lv_sub hl [0, 1, 2] rfl) h
          · have h := gf_f c18 h
            refine lv_iload_n hx hb gd_Equations_makeNewRow_56 rfl (lv_at hl 2 rfl) ?_
            refine lv_istore_n (lv' := [(1, .int x2), (0, .ref (hs t0)), (2, .int x2)]) hx hb gd_Equations_makeNewRow_57 rfl hl (by decide) rfl (fun ls hl => ?_)
            exact gx_Equations_makeNewRow_b58 F C hr hk k_4 u14 t0 x2 x2 o_t0 hW (lv_sub hl [1, 0, 2] rfl) h
set_option maxHeartbeats 4000000 in
set_option maxRecDepth 20000 in
theorem gx_Equations_makeNewRow_L4 {p : Program} {l : Launch} {e : Env} {s : State} {m : MethodId} {args : Array Value} {below : List Frame} {meth : Method} {c : Code} {D : va_G} {cA : Nat → ClassId} {hs : Nat → Nat} {z : gw_Sh} (F : Nat) {r0 : (Int32 × gw_St)} (C : gw_Cx p s m args c gb_Equations_makeNewRow 3 R_Equations D cA) (hr : meth.sig.returnType = (some .int)) (hk : meth.locks = false) : ∀ (n : Nat), ∀ (u : gw_St) (t0 : Nat) (x1 : Int32) (x2 : Int32) (H : Heap) (locs : List Loc) (ls : Array Slot), gw_ok z t0 4 → gw_Wx D cA hs z s u H locs → lv_has ls 3 [(0, .ref (hs t0)), (1, .int x1), (2, .int x2)] → gf_Equations_makeNewRow_L4 F z  n u t0 x1 x2 = some r0 → gw_Gi p l e gr_Equations_makeNewRow s m args below meth c D cA hs z r0 H locs ls 4 [] := by
  intro n
  induction n with
  | zero =>
    intro u t0 x1 x2 H locs ls o_t0 hW hl h
    cases h
  | succ n ih =>
    intro u t0 x1 x2 H locs ls o_t0 hW hl h
    exact gx_Equations_makeNewRow_S4 F C hr hk  ih u t0 x1 x2 o_t0 hW hl h

set_option maxHeartbeats 4000000 in
set_option maxRecDepth 20000 in
theorem gx_Equations_makeNewRow_b0 {p : Program} {l : Launch} {e : Env} {s : State} {m : MethodId} {args : Array Value} {below : List Frame} {meth : Method} {c : Code} {D : va_G} {cA : Nat → ClassId} {hs : Nat → Nat} {z : gw_Sh} (F : Nat) {r0 : (Int32 × gw_St)} (C : gw_Cx p s m args c gb_Equations_makeNewRow 3 R_Equations D cA) (hr : meth.sig.returnType = (some .int)) (hk : meth.locks = false) (u : gw_St) (t0 : Nat) (o_t0 : gw_ok z t0 4) {H : Heap} {locs : List Loc} {ls : Array Slot} (hW : gw_Wx D cA hs z s u H locs) (hl : lv_has ls 3 [(0, .ref (hs t0))]) (h : gf_Equations_makeNewRow_b0 F z   u t0 = some r0) : gw_Gi p l e gr_Equations_makeNewRow s m args below meth c D cA hs z r0 H locs ls 0 [] := by
  obtain ⟨hx, hb, hml, hown, hts, hK⟩ := id C
  unfold gf_Equations_makeNewRow_b0 at h
  refine lv_iconst (v := (-1)) hx hb gd_Equations_makeNewRow_0 (by decide) ?_
  refine lv_istore_n (lv' := [(1, .int (-1)), (0, .ref (hs t0))]) hx hb gd_Equations_makeNewRow_1 rfl hl (by decide) rfl (fun ls hl => ?_)
  refine lv_iconst (v := 0) hx hb gd_Equations_makeNewRow_2 (by decide) ?_
  refine lv_istore_n (lv' := [(2, .int 0), (1, .int (-1)), (0, .ref (hs t0))]) hx hb gd_Equations_makeNewRow_3 rfl hl (by decide) rfl (fun ls hl => ?_)
  exact gx_Equations_makeNewRow_L4 F C hr hk  F u t0 (-1) 0 _ _ _ o_t0 hW (lv_sub hl [2, 1, 0] rfl) h

set_option maxRecDepth 20000 in
theorem gc_Equations_makeNewRow (l : Launch) {D : va_G} {cA : Nat → ClassId} {hs : Nat → Nat} {z : gw_Sh} (F : Nat) {u : gw_St} {r0 : (Int32 × gw_St)} {t0 : Nat} (o_t0 : gw_ok z t0 4) (h : gf_Equations_makeNewRow F z u t0 = some r0) (sz : Nat) : gw_Mi l gy_Equations_makeNewRow gb_Equations_makeNewRow 3 (some .int) gr_Equations_makeNewRow [.ref (hs t0)] D cA hs z u sz r0 := by
  refine gw_enter (by decide) (Nat.le_of_ble_eq_true rfl) ?_
  intro p e s m below meth c ls hsz C hW hr hk _ hl
  subst hsz
  exact gx_Equations_makeNewRow_b0 F C hr hk u t0 o_t0 hW (lv_sub hl [0] rfl) h
-- GearDesk$Equations.clearColumn(II)V
theorem gk_275 : Cond.fieldLink R_Equations 62 R_Equations "pivot" "LGearDesk$Whole;" ∈ gt_T := gt_m1 (List.mem_of_getElem? (i := 227) rfl) rfl
theorem gk_276 : Cond.fieldLink R_Equations 9 R_Equations "calculator" "LGearDesk$Calculator;" ∈ gt_T := gt_m1 (List.mem_of_getElem? (i := 215) rfl) rfl
theorem gk_277 : Cond.methodLink R_Equations 173 gy_Calculator_divide ∈ gt_T := gt_m5 (List.mem_of_getElem? (i := 104) rfl) rfl
theorem gk_278 : Cond.fieldLink R_Equations 176 R_Calculator "quotient" "LGearDesk$Whole;" ∈ gt_T := gt_m1 (List.mem_of_getElem? (i := 163) rfl) rfl
def gy_Equations_clearColumn : MethodName := ⟨R_Equations, "clearColumn", "(II)V"⟩
abbrev gb_Equations_clearColumn : ByteArray := prog_3_method_9_code
theorem gk_279 : Cond.code gy_Equations_clearColumn gb_Equations_clearColumn 5 none ∈ gt_T := gt_m5 (List.mem_of_getElem? (i := 103) rfl) rfl
def gr_Equations_clearColumn : Room := gw_rm 4 141
theorem gm_Equations_clearColumn : gw_Mth gy_Equations_clearColumn gb_Equations_clearColumn 5 none 2 := ⟨gk_279, gk_226, ⟨by decide +kernel, by decide +kernel⟩, by decide +kernel⟩
theorem gd_Equations_clearColumn_0 : decode gb_Equations_clearColumn 0 = .ok (.aload_n 0, 1) := by decide +kernel
theorem gd_Equations_clearColumn_1 : decode gb_Equations_clearColumn 1 = .ok (.aload_n 0, 1) := by decide +kernel
theorem gd_Equations_clearColumn_2 : decode gb_Equations_clearColumn 2 = .ok (.getfield 43, 3) := by decide +kernel
theorem gd_Equations_clearColumn_5 : decode gb_Equations_clearColumn 5 = .ok (.iload_n 1, 1) := by decide +kernel
theorem gd_Equations_clearColumn_6 : decode gb_Equations_clearColumn 6 = .ok (.iload_n 2, 1) := by decide +kernel
theorem gd_Equations_clearColumn_7 : decode gb_Equations_clearColumn 7 = .ok (.invokevirtual 160, 3) := by decide +kernel
theorem gd_Equations_clearColumn_10 : decode gb_Equations_clearColumn 10 = .ok (.iconst 0, 1) := by decide +kernel
theorem gd_Equations_clearColumn_11 : decode gb_Equations_clearColumn 11 = .ok (.istore_n 3, 1) := by decide +kernel
theorem gd_Equations_clearColumn_12 : decode gb_Equations_clearColumn 12 = .ok (.iload_n 3, 1) := by decide +kernel
theorem gd_Equations_clearColumn_13 : decode gb_Equations_clearColumn 13 = .ok (.aload_n 0, 1) := by decide +kernel
theorem gd_Equations_clearColumn_14 : decode gb_Equations_clearColumn 14 = .ok (.getfield 71, 3) := by decide +kernel
theorem gd_Equations_clearColumn_17 : decode gb_Equations_clearColumn 17 = .ok (.if_icmp .ge 174, 3) := by decide +kernel
theorem gd_Equations_clearColumn_20 : decode gb_Equations_clearColumn 20 = .ok (.aload_n 0, 1) := by decide +kernel
theorem gd_Equations_clearColumn_21 : decode gb_Equations_clearColumn 21 = .ok (.getfield 20, 3) := by decide +kernel
theorem gd_Equations_clearColumn_24 : decode gb_Equations_clearColumn 24 = .ok (.iload_n 1, 1) := by decide +kernel
theorem gd_Equations_clearColumn_25 : decode gb_Equations_clearColumn 25 = .ok (.iload_n 3, 1) := by decide +kernel
theorem gd_Equations_clearColumn_26 : decode gb_Equations_clearColumn 26 = .ok (.invokestatic 105, 3) := by decide +kernel
theorem gd_Equations_clearColumn_29 : decode gb_Equations_clearColumn 29 = .ok (.iaload, 1) := by decide +kernel
theorem gd_Equations_clearColumn_30 : decode gb_Equations_clearColumn 30 = .ok (.ifCond .ne 33, 3) := by decide +kernel
theorem gd_Equations_clearColumn_33 : decode gb_Equations_clearColumn 33 = .ok (.aload_n 0, 1) := by decide +kernel
theorem gd_Equations_clearColumn_34 : decode gb_Equations_clearColumn 34 = .ok (.getfield 43, 3) := by decide +kernel
theorem gd_Equations_clearColumn_37 : decode gb_Equations_clearColumn 37 = .ok (.getfield 170, 3) := by decide +kernel
theorem gd_Equations_clearColumn_40 : decode gb_Equations_clearColumn 40 = .ok (.ifCond .eq 19, 3) := by decide +kernel
theorem gd_Equations_clearColumn_43 : decode gb_Equations_clearColumn 43 = .ok (.aload_n 0, 1) := by decide +kernel
theorem gd_Equations_clearColumn_44 : decode gb_Equations_clearColumn 44 = .ok (.getfield 20, 3) := by decide +kernel
theorem gd_Equations_clearColumn_47 : decode gb_Equations_clearColumn 47 = .ok (.aload_n 0, 1) := by decide +kernel
theorem gd_Equations_clearColumn_48 : decode gb_Equations_clearColumn 48 = .ok (.getfield 78, 3) := by decide +kernel
theorem gd_Equations_clearColumn_51 : decode gb_Equations_clearColumn 51 = .ok (.iload_n 3, 1) := by decide +kernel
theorem gd_Equations_clearColumn_52 : decode gb_Equations_clearColumn 52 = .ok (.invokestatic 105, 3) := by decide +kernel
theorem gd_Equations_clearColumn_55 : decode gb_Equations_clearColumn 55 = .ok (.iaload, 1) := by decide +kernel
theorem gd_Equations_clearColumn_56 : decode gb_Equations_clearColumn 56 = .ok (.ifCond .ne 7, 3) := by decide +kernel
theorem gd_Equations_clearColumn_59 : decode gb_Equations_clearColumn 59 = .ok (.iconst 1, 1) := by decide +kernel
theorem gd_Equations_clearColumn_60 : decode gb_Equations_clearColumn 60 = .ok (.goto 4, 3) := by decide +kernel
theorem gd_Equations_clearColumn_63 : decode gb_Equations_clearColumn 63 = .ok (.iconst 0, 1) := by decide +kernel
theorem gd_Equations_clearColumn_64 : decode gb_Equations_clearColumn 64 = .ok (.istore 4, 2) := by decide +kernel
theorem gd_Equations_clearColumn_66 : decode gb_Equations_clearColumn 66 = .ok (.aload_n 0, 1) := by decide +kernel
theorem gd_Equations_clearColumn_67 : decode gb_Equations_clearColumn 67 = .ok (.getfield 23, 3) := by decide +kernel
theorem gd_Equations_clearColumn_70 : decode gb_Equations_clearColumn 70 = .ok (.iload_n 3, 1) := by decide +kernel
theorem gd_Equations_clearColumn_71 : decode gb_Equations_clearColumn 71 = .ok (.iaload, 1) := by decide +kernel
theorem gd_Equations_clearColumn_72 : decode gb_Equations_clearColumn 72 = .ok (.iconst (-1), 1) := by decide +kernel
theorem gd_Equations_clearColumn_73 : decode gb_Equations_clearColumn 73 = .ok (.if_icmp .ne 112, 3) := by decide +kernel
theorem gd_Equations_clearColumn_76 : decode gb_Equations_clearColumn 76 = .ok (.iload_n 3, 1) := by decide +kernel
theorem gd_Equations_clearColumn_77 : decode gb_Equations_clearColumn 77 = .ok (.iload_n 2, 1) := by decide +kernel
theorem gd_Equations_clearColumn_78 : decode gb_Equations_clearColumn 78 = .ok (.if_icmp .eq 107, 3) := by decide +kernel
theorem gd_Equations_clearColumn_81 : decode gb_Equations_clearColumn 81 = .ok (.iload 4, 2) := by decide +kernel
theorem gd_Equations_clearColumn_83 : decode gb_Equations_clearColumn 83 = .ok (.ifCond .eq 6, 3) := by decide +kernel
theorem gd_Equations_clearColumn_86 : decode gb_Equations_clearColumn 86 = .ok (.goto 99, 3) := by decide +kernel
theorem gd_Equations_clearColumn_89 : decode gb_Equations_clearColumn 89 = .ok (.aload_n 0, 1) := by decide +kernel
theorem gd_Equations_clearColumn_90 : decode gb_Equations_clearColumn 90 = .ok (.aload_n 0, 1) := by decide +kernel
theorem gd_Equations_clearColumn_91 : decode gb_Equations_clearColumn 91 = .ok (.getfield 39, 3) := by decide +kernel
theorem gd_Equations_clearColumn_94 : decode gb_Equations_clearColumn 94 = .ok (.iload_n 1, 1) := by decide +kernel
theorem gd_Equations_clearColumn_95 : decode gb_Equations_clearColumn 95 = .ok (.iload_n 3, 1) := by decide +kernel
theorem gd_Equations_clearColumn_96 : decode gb_Equations_clearColumn 96 = .ok (.invokevirtual 160, 3) := by decide +kernel
theorem gd_Equations_clearColumn_99 : decode gb_Equations_clearColumn 99 = .ok (.aload_n 0, 1) := by decide +kernel
theorem gd_Equations_clearColumn_100 : decode gb_Equations_clearColumn 100 = .ok (.getfield 49, 3) := by decide +kernel
theorem gd_Equations_clearColumn_103 : decode gb_Equations_clearColumn 103 = .ok (.aload_n 0, 1) := by decide +kernel
theorem gd_Equations_clearColumn_104 : decode gb_Equations_clearColumn 104 = .ok (.getfield 62, 3) := by decide +kernel
theorem gd_Equations_clearColumn_107 : decode gb_Equations_clearColumn 107 = .ok (.aload_n 0, 1) := by decide +kernel
theorem gd_Equations_clearColumn_108 : decode gb_Equations_clearColumn 108 = .ok (.getfield 39, 3) := by decide +kernel
theorem gd_Equations_clearColumn_111 : decode gb_Equations_clearColumn 111 = .ok (.invokevirtual 153, 3) := by decide +kernel
theorem gd_Equations_clearColumn_114 : decode gb_Equations_clearColumn 114 = .ok (.aload_n 0, 1) := by decide +kernel
theorem gd_Equations_clearColumn_115 : decode gb_Equations_clearColumn 115 = .ok (.aload_n 0, 1) := by decide +kernel
theorem gd_Equations_clearColumn_116 : decode gb_Equations_clearColumn 116 = .ok (.getfield 39, 3) := by decide +kernel
theorem gd_Equations_clearColumn_119 : decode gb_Equations_clearColumn 119 = .ok (.aload_n 0, 1) := by decide +kernel
theorem gd_Equations_clearColumn_120 : decode gb_Equations_clearColumn 120 = .ok (.getfield 78, 3) := by decide +kernel
theorem gd_Equations_clearColumn_123 : decode gb_Equations_clearColumn 123 = .ok (.iload_n 3, 1) := by decide +kernel
theorem gd_Equations_clearColumn_124 : decode gb_Equations_clearColumn 124 = .ok (.invokevirtual 160, 3) := by decide +kernel
theorem gd_Equations_clearColumn_127 : decode gb_Equations_clearColumn 127 = .ok (.aload_n 0, 1) := by decide +kernel
theorem gd_Equations_clearColumn_128 : decode gb_Equations_clearColumn 128 = .ok (.getfield 46, 3) := by decide +kernel
theorem gd_Equations_clearColumn_131 : decode gb_Equations_clearColumn 131 = .ok (.aload_n 0, 1) := by decide +kernel
theorem gd_Equations_clearColumn_132 : decode gb_Equations_clearColumn 132 = .ok (.getfield 43, 3) := by decide +kernel
theorem gd_Equations_clearColumn_135 : decode gb_Equations_clearColumn 135 = .ok (.aload_n 0, 1) := by decide +kernel
theorem gd_Equations_clearColumn_136 : decode gb_Equations_clearColumn 136 = .ok (.getfield 39, 3) := by decide +kernel
theorem gd_Equations_clearColumn_139 : decode gb_Equations_clearColumn 139 = .ok (.invokevirtual 153, 3) := by decide +kernel
theorem gd_Equations_clearColumn_142 : decode gb_Equations_clearColumn 142 = .ok (.aload_n 0, 1) := by decide +kernel
theorem gd_Equations_clearColumn_143 : decode gb_Equations_clearColumn 143 = .ok (.getfield 49, 3) := by decide +kernel
theorem gd_Equations_clearColumn_146 : decode gb_Equations_clearColumn 146 = .ok (.aload_n 0, 1) := by decide +kernel
theorem gd_Equations_clearColumn_147 : decode gb_Equations_clearColumn 147 = .ok (.getfield 49, 3) := by decide +kernel
theorem gd_Equations_clearColumn_150 : decode gb_Equations_clearColumn 150 = .ok (.aload_n 0, 1) := by decide +kernel
theorem gd_Equations_clearColumn_151 : decode gb_Equations_clearColumn 151 = .ok (.getfield 46, 3) := by decide +kernel
theorem gd_Equations_clearColumn_154 : decode gb_Equations_clearColumn 154 = .ok (.invokevirtual 157, 3) := by decide +kernel
theorem gd_Equations_clearColumn_157 : decode gb_Equations_clearColumn 157 = .ok (.aload_n 0, 1) := by decide +kernel
theorem gd_Equations_clearColumn_158 : decode gb_Equations_clearColumn 158 = .ok (.getfield 9, 3) := by decide +kernel
theorem gd_Equations_clearColumn_161 : decode gb_Equations_clearColumn 161 = .ok (.aload_n 0, 1) := by decide +kernel
theorem gd_Equations_clearColumn_162 : decode gb_Equations_clearColumn 162 = .ok (.getfield 49, 3) := by decide +kernel
theorem gd_Equations_clearColumn_165 : decode gb_Equations_clearColumn 165 = .ok (.aload_n 0, 1) := by decide +kernel
theorem gd_Equations_clearColumn_166 : decode gb_Equations_clearColumn 166 = .ok (.getfield 59, 3) := by decide +kernel
theorem gd_Equations_clearColumn_169 : decode gb_Equations_clearColumn 169 = .ok (.invokevirtual 173, 3) := by decide +kernel
theorem gd_Equations_clearColumn_172 : decode gb_Equations_clearColumn 172 = .ok (.aload_n 0, 1) := by decide +kernel
theorem gd_Equations_clearColumn_173 : decode gb_Equations_clearColumn 173 = .ok (.aload_n 0, 1) := by decide +kernel
theorem gd_Equations_clearColumn_174 : decode gb_Equations_clearColumn 174 = .ok (.getfield 9, 3) := by decide +kernel
theorem gd_Equations_clearColumn_177 : decode gb_Equations_clearColumn 177 = .ok (.getfield 176, 3) := by decide +kernel
theorem gd_Equations_clearColumn_180 : decode gb_Equations_clearColumn 180 = .ok (.iload_n 1, 1) := by decide +kernel
theorem gd_Equations_clearColumn_181 : decode gb_Equations_clearColumn 181 = .ok (.iload_n 3, 1) := by decide +kernel
theorem gd_Equations_clearColumn_182 : decode gb_Equations_clearColumn 182 = .ok (.invokevirtual 164, 3) := by decide +kernel
theorem gd_Equations_clearColumn_185 : decode gb_Equations_clearColumn 185 = .ok (.iinc 3 1, 3) := by decide +kernel
theorem gd_Equations_clearColumn_188 : decode gb_Equations_clearColumn 188 = .ok (.goto (-176), 3) := by decide +kernel
theorem gd_Equations_clearColumn_191 : decode gb_Equations_clearColumn 191 = .ok (.return_, 1) := by decide +kernel
def gf_Equations_clearColumn_b185 (F : Nat) (z : gw_Sh) (rc_12 : gw_St → Nat → Int32 → Int32 → Int32 → Option gw_St) (u : gw_St) (t0 : Nat) (x1 : Int32) (x2 : Int32) (x3 : Int32) : Option gw_St :=
  gf_nm (x3 + 1) fun a1 => rc_12 u t0 x1 x2 a1
def gf_Equations_clearColumn_b64 (F : Nat) (z : gw_Sh) (rc_12 : gw_St → Nat → Int32 → Int32 → Int32 → Option gw_St) (u : gw_St) (t0 : Nat) (x1 : Int32) (x2 : Int32) (x3 : Int32) (sx0 : Int32) : Option gw_St :=
  gf_nn (u.2.2 t0 3) fun q3 => if (x3 < 0 ∨ z.2.2 q3 ≤ (x3).toNatClampNeg) then none else if (u.1 q3 (x3).toNatClampNeg) = (-1 : Int32) then (if x3 = x2 then (gf_Equations_clearColumn_b185 F z rc_12 u t0 x1 x2 x3) else (if sx0 = 0 then (gf_nn (u.2.2 t0 6) fun q9 => (gf_Equations_load F z u t0 q9 x1 x3).bind fun u11 => gf_nn (u11.2.2 t0 9) fun q13 => gf_nn (u11.2.2 t0 12) fun q15 => gf_nn (u11.2.2 t0 6) fun q17 => (gf_Whole_setProduct F z u11 q13 q15 q17).bind fun u19 => gf_nn (u19.2.2 t0 6) fun q21 => (gf_Equations_load F z u19 t0 q21 (u19.1 t0 15) x3).bind fun u23 => gf_nn (u23.2.2 t0 8) fun q25 => gf_nn (u23.2.2 t0 7) fun q27 => gf_nn (u23.2.2 t0 6) fun q29 => (gf_Whole_setProduct F z u23 q25 q27 q29).bind fun u31 => gf_nn (u31.2.2 t0 9) fun q33 => gf_nn (u31.2.2 t0 9) fun q35 => gf_nn (u31.2.2 t0 8) fun q37 => (gf_Whole_setDifference F z u31 q33 q35 q37).bind fun u39 => gf_nn (u39.2.2 t0 0) fun q41 => gf_nn (u39.2.2 t0 9) fun q43 => gf_nn (u39.2.2 t0 11) fun q45 => (gf_Calculator_divide F z u39 q41 q43 q45).bind fun u47 => gf_nn (u47.2.2 t0 0) fun q49 => gf_nn (u47.2.2 q49 0) fun q51 => (gf_Equations_store F z u47 t0 q51 x1 x3).bind fun u53 => gf_Equations_clearColumn_b185 F z rc_12 u53 t0 x1 x2 x3) else (gf_Equations_clearColumn_b185 F z rc_12 u t0 x1 x2 x3))) else (gf_Equations_clearColumn_b185 F z rc_12 u t0 x1 x2 x3)
def gf_Equations_clearColumn_b63 (F : Nat) (z : gw_Sh) (rc_12 : gw_St → Nat → Int32 → Int32 → Int32 → Option gw_St) (u : gw_St) (t0 : Nat) (x1 : Int32) (x2 : Int32) (x3 : Int32) : Option gw_St :=
  gf_Equations_clearColumn_b64 F z rc_12 u t0 x1 x2 x3 0
def gf_Equations_clearColumn_b59 (F : Nat) (z : gw_Sh) (rc_12 : gw_St → Nat → Int32 → Int32 → Int32 → Option gw_St) (u : gw_St) (t0 : Nat) (x1 : Int32) (x2 : Int32) (x3 : Int32) : Option gw_St :=
  gf_Equations_clearColumn_b64 F z rc_12 u t0 x1 x2 x3 1
def gf_Equations_clearColumn_S12 (F : Nat) (z : gw_Sh)  (rc_12 : gw_St → Nat → Int32 → Int32 → Int32 → Option gw_St) (u : gw_St) (t0 : Nat) (x1 : Int32) (x2 : Int32) (x3 : Int32) : Option gw_St :=
  if (u.1 t0 14) ≤ x3 then (some u) else (gf_nn (u.2.2 t0 2) fun q56 => gf_cl (gf_Equations_at F z u x1 x3) fun a60 u58 => if (a60 < 0 ∨ z.2.2 q56 ≤ (a60).toNatClampNeg) then none else if (u58.1 q56 (a60).toNatClampNeg) = 0 then (gf_nn (u58.2.2 t0 7) fun q63 => if (u58.1 q63 2) = 0 then (gf_Equations_clearColumn_b59 F z rc_12 u58 t0 x1 x2 x3) else (gf_nn (u58.2.2 t0 2) fun q66 => gf_cl (gf_Equations_at F z u58 (u58.1 t0 15) x3) fun a70 u68 => if (a70 < 0 ∨ z.2.2 q66 ≤ (a70).toNatClampNeg) then none else if (u68.1 q66 (a70).toNatClampNeg) = 0 then (gf_Equations_clearColumn_b59 F z rc_12 u68 t0 x1 x2 x3) else (gf_Equations_clearColumn_b63 F z rc_12 u68 t0 x1 x2 x3))) else (gf_Equations_clearColumn_b63 F z rc_12 u58 t0 x1 x2 x3))
def gf_Equations_clearColumn_L12 (F : Nat) (z : gw_Sh)  : Nat → gw_St → Nat → Int32 → Int32 → Int32 → Option gw_St
  | 0 => fun _ _ _ _ _ => none
  | n + 1 => fun u t0 x1 x2 x3 => gf_Equations_clearColumn_S12 F z  (gf_Equations_clearColumn_L12 F z  n) u t0 x1 x2 x3
def gf_Equations_clearColumn_b0 (F : Nat) (z : gw_Sh)  (u : gw_St) (t0 : Nat) (x1 : Int32) (x2 : Int32) : Option gw_St :=
  gf_nn (u.2.2 t0 7) fun q73 => (gf_Equations_load F z u t0 q73 x1 x2).bind fun u75 => gf_Equations_clearColumn_L12 F z  F u75 t0 x1 x2 0
def gf_Equations_clearColumn (F : Nat) (z : gw_Sh) (u : gw_St) (t0 : Nat) (x1 : Int32) (x2 : Int32) : Option gw_St := gf_Equations_clearColumn_b0 F z  u t0 x1 x2
set_option maxHeartbeats 4000000 in
set_option maxRecDepth 20000 in
theorem gx_Equations_clearColumn_b185 {p : Program} {l : Launch} {e : Env} {s : State} {m : MethodId} {args : Array Value} {below : List Frame} {meth : Method} {c : Code} {D : va_G} {cA : Nat → ClassId} {hs : Nat → Nat} {z : gw_Sh} (F : Nat) {r0 : gw_St} (C : gw_Cx p s m args c gb_Equations_clearColumn 5 R_Equations D cA) (hr : meth.sig.returnType = none) (hk : meth.locks = false) {rc_12 : gw_St → Nat → Int32 → Int32 → Int32 → Option gw_St} (k_12 : ∀ (u : gw_St) (t0 : Nat) (x1 : Int32) (x2 : Int32) (x3 : Int32) (H : Heap) (locs : List Loc) (ls : Array Slot), gw_ok z t0 4 → gw_Wx D cA hs z s u H locs → lv_has ls 5 [(0, .ref (hs t0)), (1, .int x1), (2, .int x2), (3, .int x3)] → rc_12 u t0 x1 x2 x3 = some r0 → gw_Gv p l e gr_Equations_clearColumn s m args below meth c D cA hs z r0 H locs ls 12 []) (u : gw_St) (t0 : Nat) (x1 : Int32) (x2 : Int32) (x3 : Int32) (o_t0 : gw_ok z t0 4) {H : Heap} {locs : List Loc} {ls : Array Slot} (hW : gw_Wx D cA hs z s u H locs) (hl : lv_has ls 5 [(0, .ref (hs t0)), (1, .int x1), (2, .int x2), (3, .int x3)]) (h : gf_Equations_clearColumn_b185 F z rc_12  u t0 x1 x2 x3 = some r0) : gw_Gv p l e gr_Equations_clearColumn s m args below meth c D cA hs z r0 H locs ls 185 [] := by
  obtain ⟨hx, hb, hml, hown, hts, hK⟩ := id C
  unfold gf_Equations_clearColumn_b185 at h
  obtain ⟨a1, e2⟩ : ∃ y : Int32, y = x3 + 1 := ⟨_, rfl⟩
  have h := gf_nm_ok e2 h
  refine lv_iinc (v := a1) (lv' := [(3, .int a1), (0, .ref (hs t0)), (1, .int x1), (2, .int x2)]) hx hb gd_Equations_clearColumn_185 hl (k := 3) rfl (by rw [e2]; rfl) (by decide) rfl (fun ls hl => ?_)
  refine lv_goto (tgt := 12) hx hb gd_Equations_clearColumn_188 (by decide) ?_
  exact k_12 u t0 x1 x2 a1 _ _ _ o_t0 hW (lv_sub hl [1, 2, 3, 0] rfl) h

set_option maxHeartbeats 4000000 in
set_option maxRecDepth 20000 in
theorem gx_Equations_clearColumn_b64 {p : Program} {l : Launch} {e : Env} {s : State} {m : MethodId} {args : Array Value} {below : List Frame} {meth : Method} {c : Code} {D : va_G} {cA : Nat → ClassId} {hs : Nat → Nat} {z : gw_Sh} (F : Nat) {r0 : gw_St} (C : gw_Cx p s m args c gb_Equations_clearColumn 5 R_Equations D cA) (hr : meth.sig.returnType = none) (hk : meth.locks = false) {rc_12 : gw_St → Nat → Int32 → Int32 → Int32 → Option gw_St} (k_12 : ∀ (u : gw_St) (t0 : Nat) (x1 : Int32) (x2 : Int32) (x3 : Int32) (H : Heap) (locs : List Loc) (ls : Array Slot), gw_ok z t0 4 → gw_Wx D cA hs z s u H locs → lv_has ls 5 [(0, .ref (hs t0)), (1, .int x1), (2, .int x2), (3, .int x3)] → rc_12 u t0 x1 x2 x3 = some r0 → gw_Gv p l e gr_Equations_clearColumn s m args below meth c D cA hs z r0 H locs ls 12 []) (u : gw_St) (t0 : Nat) (x1 : Int32) (x2 : Int32) (x3 : Int32) (sx0 : Int32) (o_t0 : gw_ok z t0 4) {H : Heap} {locs : List Loc} {ls : Array Slot} (hW : gw_Wx D cA hs z s u H locs) (hl : lv_has ls 5 [(0, .ref (hs t0)), (1, .int x1), (2, .int x2), (3, .int x3)]) (h : gf_Equations_clearColumn_b64 F z rc_12  u t0 x1 x2 x3 sx0 = some r0) : gw_Gv p l e gr_Equations_clearColumn s m args below meth c D cA hs z r0 H locs ls 64 [.int sx0] := by
  obtain ⟨hx, hb, hml, hown, hts, hK⟩ := id C
  unfold gf_Equations_clearColumn_b64 at h
  refine lv_istore (lv' := [(4, .int sx0), (0, .ref (hs t0)), (1, .int x1), (2, .int x2), (3, .int x3)]) hx hb gd_Equations_clearColumn_64 hl (by decide) rfl (fun ls hl => ?_)
  refine lv_aload_n hx hb gd_Equations_clearColumn_66 rfl (lv_at hl 1 rfl) ?_
  obtain ⟨q3, e4, h⟩ := gf_nn_ok h
  refine gw_getr (k := 3) (ty := 10) (ref := R_Equations) C hW o_t0 (by decide) rfl gi_Equations rfl (by decide) rfl rfl gk_253 gd_Equations_clearColumn_67 e4 ?_
  have o_q3 := hW.ref (d := 10) o_t0 e4 rfl
  refine lv_iload_n hx hb gd_Equations_clearColumn_70 rfl (lv_at hl 4 rfl) ?_
  obtain ⟨g5, h⟩ := gf_if_ok h
  refine gw_iald C hW o_q3 g5 gd_Equations_clearColumn_71 ?_
  refine lv_iconst (v := (-1)) hx hb gd_Equations_clearColumn_72 (by decide) ?_
  refine lv_icmp_ne (tgt := 185) hx hb gd_Equations_clearColumn_73 (by decide) (fun c6 => ?_) (fun c6 => ?_)
  · have h := gf_f c6 h
    exact gx_Equations_clearColumn_b185 F C hr hk k_12 u t0 x1 x2 x3 o_t0 hW (lv_sub hl [1, 2, 3, 4] rfl) h
  · have h := gf_t c6 h
    refine lv_iload_n hx hb gd_Equations_clearColumn_76 rfl (lv_at hl 4 rfl) ?_
    refine lv_iload_n hx hb gd_Equations_clearColumn_77 rfl (lv_at hl 3 rfl) ?_
    refine lv_icmp_eq (tgt := 185) hx hb gd_Equations_clearColumn_78 (by decide) (fun c7 => ?_) (fun c7 => ?_)
    · have h := gf_t c7 h
      exact gx_Equations_clearColumn_b185 F C hr hk k_12 u t0 x1 x2 x3 o_t0 hW (lv_sub hl [1, 2, 3, 4] rfl) h
    · have h := gf_f c7 h
      refine lv_iload hx hb gd_Equations_clearColumn_81 (lv_at hl 0 rfl) ?_
      refine lv_if_eq (tgt := 89) hx hb gd_Equations_clearColumn_83 (by decide) (fun c8 => ?_) (fun c8 => ?_)
      · have h := gf_t c8 h
        refine lv_aload_n hx hb gd_Equations_clearColumn_89 rfl (lv_at hl 1 rfl) ?_
        refine lv_aload_n hx hb gd_Equations_clearColumn_90 rfl (lv_at hl 1 rfl) ?_
        obtain ⟨q9, e10, h⟩ := gf_nn_ok h
        refine gw_getr (k := 6) (ty := 8) (ref := R_Equations) C hW o_t0 (by decide) rfl gi_Equations rfl (by decide) rfl rfl gk_254 gd_Equations_clearColumn_91 e10 ?_
        have o_q9 := hW.ref (d := 8) o_t0 e10 rfl
        refine lv_iload_n hx hb gd_Equations_clearColumn_94 rfl (lv_at hl 2 rfl) ?_
        refine lv_iload_n hx hb gd_Equations_clearColumn_95 rfl (lv_at hl 4 rfl) ?_
        obtain ⟨u11, d12, h⟩ := gf_bd_ok h
        refine gw_callVv (K := R_Equations) (As := [.ref (hs q9), .int x1, .int x3]) (rest := []) C hW (fun _ h => Or.inr h) hl.1 gm_Equations_load (gc_Equations_load l F o_t0 o_q9 d12 _) gk_255 gk_256 gk_257 o_t0 (by decide) rfl rfl rfl ⟨Nat.le_of_ble_eq_true rfl, Nat.le_of_ble_eq_true rfl⟩ ⟨Nat.zero_le _, Nat.zero_le _⟩ rfl rfl (Nat.le_of_ble_eq_true rfl) gd_Equations_clearColumn_96 (fun H locs hW => ?_)
        refine lv_aload_n hx hb gd_Equations_clearColumn_99 rfl (lv_at hl 1 rfl) ?_
        obtain ⟨q13, e14, h⟩ := gf_nn_ok h
        refine gw_getr (k := 9) (ty := 8) (ref := R_Equations) C hW o_t0 (by decide) rfl gi_Equations rfl (by decide) rfl rfl gk_248 gd_Equations_clearColumn_100 e14 ?_
        have o_q13 := hW.ref (d := 8) o_t0 e14 rfl
        refine lv_aload_n hx hb gd_Equations_clearColumn_103 rfl (lv_at hl 1 rfl) ?_
        obtain ⟨q15, e16, h⟩ := gf_nn_ok h
        refine gw_getr (k := 12) (ty := 8) (ref := R_Equations) C hW o_t0 (by decide) rfl gi_Equations rfl (by decide) rfl rfl gk_275 gd_Equations_clearColumn_104 e16 ?_
        have o_q15 := hW.ref (d := 8) o_t0 e16 rfl
        refine lv_aload_n hx hb gd_Equations_clearColumn_107 rfl (lv_at hl 1 rfl) ?_
        obtain ⟨q17, e18, h⟩ := gf_nn_ok h
        refine gw_getr (k := 6) (ty := 8) (ref := R_Equations) C hW o_t0 (by decide) rfl gi_Equations rfl (by decide) rfl rfl gk_254 gd_Equations_clearColumn_108 e18 ?_
        have o_q17 := hW.ref (d := 8) o_t0 e18 rfl
        obtain ⟨u19, d20, h⟩ := gf_bd_ok h
        refine gw_callVv (K := R_Whole) (As := [.ref (hs q15), .ref (hs q17)]) (rest := []) C hW (fun _ h => Or.inr h) hl.1 gm_Whole_setProduct (gc_Whole_setProduct l F o_q13 o_q15 o_q17 d20 _) gk_261 gk_262 gk_263 o_q13 (by decide) rfl rfl rfl ⟨Nat.le_of_ble_eq_true rfl, Nat.le_of_ble_eq_true rfl⟩ ⟨Nat.zero_le _, Nat.zero_le _⟩ rfl rfl (Nat.le_of_ble_eq_true rfl) gd_Equations_clearColumn_111 (fun H locs hW => ?_)
        refine lv_aload_n hx hb gd_Equations_clearColumn_114 rfl (lv_at hl 1 rfl) ?_
        refine lv_aload_n hx hb gd_Equations_clearColumn_115 rfl (lv_at hl 1 rfl) ?_
        obtain ⟨q21, e22, h⟩ := gf_nn_ok h
        refine gw_getr (k := 6) (ty := 8) (ref := R_Equations) C hW o_t0 (by decide) rfl gi_Equations rfl (by decide) rfl rfl gk_254 gd_Equations_clearColumn_116 e22 ?_
        have o_q21 := hW.ref (d := 8) o_t0 e22 rfl
        refine lv_aload_n hx hb gd_Equations_clearColumn_119 rfl (lv_at hl 1 rfl) ?_
        refine gw_geti (k := 15) (ref := R_Equations) C hW o_t0 (by decide) rfl gi_Equations rfl (by decide) rfl rfl gk_249 gd_Equations_clearColumn_120 ?_
        refine lv_iload_n hx hb gd_Equations_clearColumn_123 rfl (lv_at hl 4 rfl) ?_
        obtain ⟨u23, d24, h⟩ := gf_bd_ok h
        refine gw_callVv (K := R_Equations) (As := [.ref (hs q21), .int (u19.1 t0 15), .int x3]) (rest := []) C hW (fun _ h => Or.inr h) hl.1 gm_Equations_load (gc_Equations_load l F o_t0 o_q21 d24 _) gk_255 gk_256 gk_257 o_t0 (by decide) rfl rfl rfl ⟨Nat.le_of_ble_eq_true rfl, Nat.le_of_ble_eq_true rfl⟩ ⟨Nat.zero_le _, Nat.zero_le _⟩ rfl rfl (Nat.le_of_ble_eq_true rfl) gd_Equations_clearColumn_124 (fun H locs hW => ?_)
        refine lv_aload_n hx hb gd_Equations_clearColumn_127 rfl (lv_at hl 1 rfl) ?_
        obtain ⟨q25, e26, h⟩ := gf_nn_ok h
        refine gw_getr (k := 8) (ty := 8) (ref := R_Equations) C hW o_t0 (by decide) rfl gi_Equations rfl (by decide) rfl rfl gk_260 gd_Equations_clearColumn_128 e26 ?_
        have o_q25 := hW.ref (d := 8) o_t0 e26 rfl
        refine lv_aload_n hx hb gd_Equations_clearColumn_131 rfl (lv_at hl 1 rfl) ?_
        obtain ⟨q27, e28, h⟩ := gf_nn_ok h
        refine gw_getr (k := 7) (ty := 8) (ref := R_Equations) C hW o_t0 (by decide) rfl gi_Equations rfl (by decide) rfl rfl gk_258 gd_Equations_clearColumn_132 e28 ?_
        have o_q27 := hW.ref (d := 8) o_t0 e28 rfl
        refine lv_aload_n hx hb gd_Equations_clearColumn_135 rfl (lv_at hl 1 rfl) ?_
        obtain ⟨q29, e30, h⟩ := gf_nn_ok h
        refine gw_getr (k := 6) (ty := 8) (ref := R_Equations) C hW o_t0 (by decide) rfl gi_Equations rfl (by decide) rfl rfl gk_254 gd_Equations_clearColumn_136 e30 ?_
        have o_q29 := hW.ref (d := 8) o_t0 e30 rfl
        obtain ⟨u31, d32, h⟩ := gf_bd_ok h
        refine gw_callVv (K := R_Whole) (As := [.ref (hs q27), .ref (hs q29)]) (rest := []) C hW (fun _ h => Or.inr h) hl.1 gm_Whole_setProduct (gc_Whole_setProduct l F o_q25 o_q27 o_q29 d32 _) gk_261 gk_262 gk_263 o_q25 (by decide) rfl rfl rfl ⟨Nat.le_of_ble_eq_true rfl, Nat.le_of_ble_eq_true rfl⟩ ⟨Nat.zero_le _, Nat.zero_le _⟩ rfl rfl (Nat.le_of_ble_eq_true rfl) gd_Equations_clearColumn_139 (fun H locs hW => ?_)
        refine lv_aload_n hx hb gd_Equations_clearColumn_142 rfl (lv_at hl 1 rfl) ?_
        obtain ⟨q33, e34, h⟩ := gf_nn_ok h
        refine gw_getr (k := 9) (ty := 8) (ref := R_Equations) C hW o_t0 (by decide) rfl gi_Equations rfl (by decide) rfl rfl gk_248 gd_Equations_clearColumn_143 e34 ?_
        have o_q33 := hW.ref (d := 8) o_t0 e34 rfl
        refine lv_aload_n hx hb gd_Equations_clearColumn_146 rfl (lv_at hl 1 rfl) ?_
        obtain ⟨q35, e36, h⟩ := gf_nn_ok h
        refine gw_getr (k := 9) (ty := 8) (ref := R_Equations) C hW o_t0 (by decide) rfl gi_Equations rfl (by decide) rfl rfl gk_248 gd_Equations_clearColumn_147 e36 ?_
        have o_q35 := hW.ref (d := 8) o_t0 e36 rfl
        refine lv_aload_n hx hb gd_Equations_clearColumn_150 rfl (lv_at hl 1 rfl) ?_
        obtain ⟨q37, e38, h⟩ := gf_nn_ok h
        refine gw_getr (k := 8) (ty := 8) (ref := R_Equations) C hW o_t0 (by decide) rfl gi_Equations rfl (by decide) rfl rfl gk_260 gd_Equations_clearColumn_151 e38 ?_
        have o_q37 := hW.ref (d := 8) o_t0 e38 rfl
        obtain ⟨u39, d40, h⟩ := gf_bd_ok h
        refine gw_callVv (K := R_Whole) (As := [.ref (hs q35), .ref (hs q37)]) (rest := []) C hW (fun _ h => Or.inr h) hl.1 gm_Whole_setDifference (gc_Whole_setDifference l F o_q33 o_q35 o_q37 d40 _) gk_264 gk_265 gk_266 o_q33 (by decide) rfl rfl rfl ⟨Nat.le_of_ble_eq_true rfl, Nat.le_of_ble_eq_true rfl⟩ ⟨Nat.zero_le _, Nat.zero_le _⟩ rfl rfl (Nat.le_of_ble_eq_true rfl) gd_Equations_clearColumn_154 (fun H locs hW => ?_)
        refine lv_aload_n hx hb gd_Equations_clearColumn_157 rfl (lv_at hl 1 rfl) ?_
        obtain ⟨q41, e42, h⟩ := gf_nn_ok h
        refine gw_getr (k := 0) (ty := 7) (ref := R_Equations) C hW o_t0 (by decide) rfl gi_Equations rfl (by decide) rfl rfl gk_276 gd_Equations_clearColumn_158 e42 ?_
        have o_q41 := hW.ref (d := 7) o_t0 e42 rfl
        refine lv_aload_n hx hb gd_Equations_clearColumn_161 rfl (lv_at hl 1 rfl) ?_
        obtain ⟨q43, e44, h⟩ := gf_nn_ok h
        refine gw_getr (k := 9) (ty := 8) (ref := R_Equations) C hW o_t0 (by decide) rfl gi_Equations rfl (by decide) rfl rfl gk_248 gd_Equations_clearColumn_162 e44 ?_
        have o_q43 := hW.ref (d := 8) o_t0 e44 rfl
        refine lv_aload_n hx hb gd_Equations_clearColumn_165 rfl (lv_at hl 1 rfl) ?_
        obtain ⟨q45, e46, h⟩ := gf_nn_ok h
        refine gw_getr (k := 11) (ty := 8) (ref := R_Equations) C hW o_t0 (by decide) rfl gi_Equations rfl (by decide) rfl rfl gk_267 gd_Equations_clearColumn_166 e46 ?_
        have o_q45 := hW.ref (d := 8) o_t0 e46 rfl
        obtain ⟨u47, d48, h⟩ := gf_bd_ok h
        refine gw_callVv (K := R_Calculator) (As := [.ref (hs q43), .ref (hs q45)]) (rest := []) C hW (fun _ h => Or.inr h) hl.1 gm_Calculator_divide (gc_Calculator_divide l F o_q41 o_q43 o_q45 d48 _) gk_277 gk_98 gk_99 o_q41 (by decide) rfl rfl rfl ⟨Nat.le_of_ble_eq_true rfl, Nat.le_of_ble_eq_true rfl⟩ ⟨Nat.zero_le _, Nat.zero_le _⟩ rfl rfl (Nat.le_of_ble_eq_true rfl) gd_Equations_clearColumn_169 (fun H locs hW => ?_)
        refine lv_aload_n hx hb gd_Equations_clearColumn_172 rfl (lv_at hl 1 rfl) ?_
        refine lv_aload_n hx hb gd_Equations_clearColumn_173 rfl (lv_at hl 1 rfl) ?_
        obtain ⟨q49, e50, h⟩ := gf_nn_ok h
        refine gw_getr (k := 0) (ty := 7) (ref := R_Equations) C hW o_t0 (by decide) rfl gi_Equations rfl (by decide) rfl rfl gk_276 gd_Equations_clearColumn_174 e50 ?_
        have o_q49 := hW.ref (d := 7) o_t0 e50 rfl
        obtain ⟨q51, e52, h⟩ := gf_nn_ok h
        refine gw_getr (k := 0) (ty := 8) (ref := R_Calculator) C hW o_q49 (by decide) rfl gi_Calculator rfl (by decide) rfl rfl gk_278 gd_Equations_clearColumn_177 e52 ?_
        have o_q51 := hW.ref (d := 8) o_q49 e52 rfl
        refine lv_iload_n hx hb gd_Equations_clearColumn_180 rfl (lv_at hl 2 rfl) ?_
        refine lv_iload_n hx hb gd_Equations_clearColumn_181 rfl (lv_at hl 4 rfl) ?_
        obtain ⟨u53, d54, h⟩ := gf_bd_ok h
        refine gw_callVv (K := R_Equations) (As := [.ref (hs q51), .int x1, .int x3]) (rest := []) C hW (fun _ h => Or.inr h) hl.1 gm_Equations_store (gc_Equations_store l F o_t0 o_q51 d54 _) gk_250 gk_251 gk_252 o_t0 (by decide) rfl rfl rfl ⟨Nat.le_of_ble_eq_true rfl, Nat.le_of_ble_eq_true rfl⟩ ⟨Nat.zero_le _, Nat.zero_le _⟩ rfl rfl (Nat.le_of_ble_eq_true rfl) gd_Equations_clearColumn_182 (fun H locs hW => ?_)
        exact gx_Equations_clearColumn_b185 F C hr hk k_12 u53 t0 x1 x2 x3 o_t0 hW (lv_sub hl [1, 2, 3, 4] rfl) h
      · have h := gf_f c8 h
        refine lv_goto (tgt := 185) hx hb gd_Equations_clearColumn_86 (by decide) ?_
        exact gx_Equations_clearColumn_b185 F C hr hk k_12 u t0 x1 x2 x3 o_t0 hW (lv_sub hl [1, 2, 3, 4] rfl) h

set_option maxHeartbeats 4000000 in
set_option maxRecDepth 20000 in
theorem gx_Equations_clearColumn_b63 {p : Program} {l : Launch} {e : Env} {s : State} {m : MethodId} {args : Array Value} {below : List Frame} {meth : Method} {c : Code} {D : va_G} {cA : Nat → ClassId} {hs : Nat → Nat} {z : gw_Sh} (F : Nat) {r0 : gw_St} (C : gw_Cx p s m args c gb_Equations_clearColumn 5 R_Equations D cA) (hr : meth.sig.returnType = none) (hk : meth.locks = false) {rc_12 : gw_St → Nat → Int32 → Int32 → Int32 → Option gw_St} (k_12 : ∀ (u : gw_St) (t0 : Nat) (x1 : Int32) (x2 : Int32) (x3 : Int32) (H : Heap) (locs : List Loc) (ls : Array Slot), gw_ok z t0 4 → gw_Wx D cA hs z s u H locs → lv_has ls 5 [(0, .ref (hs t0)), (1, .int x1), (2, .int x2), (3, .int x3)] → rc_12 u t0 x1 x2 x3 = some r0 → gw_Gv p l e gr_Equations_clearColumn s m args below meth c D cA hs z r0 H locs ls 12 []) (u : gw_St) (t0 : Nat) (x1 : Int32) (x2 : Int32) (x3 : Int32) (o_t0 : gw_ok z t0 4) {H : Heap} {locs : List Loc} {ls : Array Slot} (hW : gw_Wx D cA hs z s u H locs) (hl : lv_has ls 5 [(0, .ref (hs t0)), (1, .int x1), (2, .int x2), (3, .int x3)]) (h : gf_Equations_clearColumn_b63 F z rc_12  u t0 x1 x2 x3 = some r0) : gw_Gv p l e gr_Equations_clearColumn s m args below meth c D cA hs z r0 H locs ls 63 [] := by
  obtain ⟨hx, hb, hml, hown, hts, hK⟩ := id C
  unfold gf_Equations_clearColumn_b63 at h
  refine lv_iconst (v := 0) hx hb gd_Equations_clearColumn_63 (by decide) ?_
  exact gx_Equations_clearColumn_b64 F C hr hk k_12 u t0 x1 x2 x3 0 o_t0 hW (lv_sub hl [0, 1, 2, 3] rfl) h

set_option maxHeartbeats 4000000 in
set_option maxRecDepth 20000 in
theorem gx_Equations_clearColumn_b59 {p : Program} {l : Launch} {e : Env} {s : State} {m : MethodId} {args : Array Value} {below : List Frame} {meth : Method} {c : Code} {D : va_G} {cA : Nat → ClassId} {hs : Nat → Nat} {z : gw_Sh} (F : Nat) {r0 : gw_St} (C : gw_Cx p s m args c gb_Equations_clearColumn 5 R_Equations D cA) (hr : meth.sig.returnType = none) (hk : meth.locks = false) {rc_12 : gw_St → Nat → Int32 → Int32 → Int32 → Option gw_St} (k_12 : ∀ (u : gw_St) (t0 : Nat) (x1 : Int32) (x2 : Int32) (x3 : Int32) (H : Heap) (locs : List Loc) (ls : Array Slot), gw_ok z t0 4 → gw_Wx D cA hs z s u H locs → lv_has ls 5 [(0, .ref (hs t0)), (1, .int x1), (2, .int x2), (3, .int x3)] → rc_12 u t0 x1 x2 x3 = some r0 → gw_Gv p l e gr_Equations_clearColumn s m args below meth c D cA hs z r0 H locs ls 12 []) (u : gw_St) (t0 : Nat) (x1 : Int32) (x2 : Int32) (x3 : Int32) (o_t0 : gw_ok z t0 4) {H : Heap} {locs : List Loc} {ls : Array Slot} (hW : gw_Wx D cA hs z s u H locs) (hl : lv_has ls 5 [(0, .ref (hs t0)), (1, .int x1), (2, .int x2), (3, .int x3)]) (h : gf_Equations_clearColumn_b59 F z rc_12  u t0 x1 x2 x3 = some r0) : gw_Gv p l e gr_Equations_clearColumn s m args below meth c D cA hs z r0 H locs ls 59 [] := by
  obtain ⟨hx, hb, hml, hown, hts, hK⟩ := id C
  unfold gf_Equations_clearColumn_b59 at h
  refine lv_iconst (v := 1) hx hb gd_Equations_clearColumn_59 (by decide) ?_
  refine lv_goto (tgt := 64) hx hb gd_Equations_clearColumn_60 (by decide) ?_
  exact gx_Equations_clearColumn_b64 F C hr hk k_12 u t0 x1 x2 x3 1 o_t0 hW (lv_sub hl [0, 1, 2, 3] rfl) h

set_option maxHeartbeats 4000000 in
set_option maxRecDepth 20000 in
theorem gx_Equations_clearColumn_S12 {p : Program} {l : Launch} {e : Env} {s : State} {m : MethodId} {args : Array Value} {below : List Frame} {meth : Method} {c : Code} {D : va_G} {cA : Nat → ClassId} {hs : Nat → Nat} {z : gw_Sh} (F : Nat) {r0 : gw_St} (C : gw_Cx p s m args c gb_Equations_clearColumn 5 R_Equations D cA) (hr : meth.sig.returnType = none) (hk : meth.locks = false) {rc_12 : gw_St → Nat → Int32 → Int32 → Int32 → Option gw_St} (k_12 : ∀ (u : gw_St) (t0 : Nat) (x1 : Int32) (x2 : Int32) (x3 : Int32) (H : Heap) (locs : List Loc) (ls : Array Slot), gw_ok z t0 4 → gw_Wx D cA hs z s u H locs → lv_has ls 5 [(0, .ref (hs t0)), (1, .int x1), (2, .int x2), (3, .int x3)] → rc_12 u t0 x1 x2 x3 = some r0 → gw_Gv p l e gr_Equations_clearColumn s m args below meth c D cA hs z r0 H locs ls 12 []) (u : gw_St) (t0 : Nat) (x1 : Int32) (x2 : Int32) (x3 : Int32) (o_t0 : gw_ok z t0 4) {H : Heap} {locs : List Loc} {ls : Array Slot} (hW : gw_Wx D cA hs z s u H locs) (hl : lv_has ls 5 [(0, .ref (hs t0)), (1, .int x1), (2, .int x2), (3, .int x3)]) (h : gf_Equations_clearColumn_S12 F z  rc_12 u t0 x1 x2 x3 = some r0) : gw_Gv p l e gr_Equations_clearColumn s m args below meth c D cA hs z r0 H locs ls 12 [] := by
  obtain ⟨hx, hb, hml, hown, hts, hK⟩ := id C
  unfold gf_Equations_clearColumn_S12 at h
  refine lv_iload_n hx hb gd_Equations_clearColumn_12 rfl (lv_at hl 3 rfl) ?_
  refine lv_aload_n hx hb gd_Equations_clearColumn_13 rfl (lv_at hl 0 rfl) ?_
  refine gw_geti (k := 14) (ref := R_Equations) C hW o_t0 (by decide) rfl gi_Equations rfl (by decide) rfl rfl gk_269 gd_Equations_clearColumn_14 ?_
  refine lv_icmp_ge (tgt := 191) hx hb gd_Equations_clearColumn_17 (by decide) (fun c55 => ?_) (fun c55 => ?_)
  · have h := gf_t c55 h
    obtain rfl := Option.some.inj h
    exact gw_vret C hW hr hk gd_Equations_clearColumn_191
  · have h := gf_f c55 h
    refine lv_aload_n hx hb gd_Equations_clearColumn_20 rfl (lv_at hl 0 rfl) ?_
    obtain ⟨q56, e57, h⟩ := gf_nn_ok h
    refine gw_getr (k := 2) (ty := 10) (ref := R_Equations) C hW o_t0 (by decide) rfl gi_Equations rfl (by decide) rfl rfl gk_237 gd_Equations_clearColumn_21 e57 ?_
    have o_q56 := hW.ref (d := 10) o_t0 e57 rfl
    refine lv_iload_n hx hb gd_Equations_clearColumn_24 rfl (lv_at hl 1 rfl) ?_
    refine lv_iload_n hx hb gd_Equations_clearColumn_25 rfl (lv_at hl 3 rfl) ?_
    obtain ⟨a60, u58, d59, h⟩ := gf_cl_ok h
    refine gw_callSi (As := [.int x1, .int x3]) (rest := [.ref (hs q56)]) C hW (fun _ h => Or.inr h) hl.1 gm_Equations_at (gc_Equations_at l F  d59 _) gk_235 gk_236 rfl rfl ⟨Nat.le_of_ble_eq_true rfl, Nat.le_of_ble_eq_true rfl⟩ ⟨Nat.zero_le _, Nat.zero_le _⟩ rfl rfl (Nat.le_of_ble_eq_true rfl) gd_Equations_clearColumn_26 (fun H locs hW => ?_)
    obtain ⟨g61, h⟩ := gf_if_ok h
    refine gw_iald C hW o_q56 g61 gd_Equations_clearColumn_29 ?_
    refine lv_if_ne (tgt := 63) hx hb gd_Equations_clearColumn_30 (by decide) (fun c62 => ?_) (fun c62 => ?_)
    · have h := gf_f c62 h
      exact gx_Equations_clearColumn_b63 F C hr hk k_12 u58 t0 x1 x2 x3 o_t0 hW (lv_sub hl [0, 1, 2, 3] rfl) h
    · have h := gf_t c62 h
      refine lv_aload_n hx hb gd_Equations_clearColumn_33 rfl (lv_at hl 0 rfl) ?_
      obtain ⟨q63, e64, h⟩ := gf_nn_ok h
      refine gw_getr (k := 7) (ty := 8) (ref := R_Equations) C hW o_t0 (by decide) rfl gi_Equations rfl (by decide) rfl rfl gk_258 gd_Equations_clearColumn_34 e64 ?_
      have o_q63 := hW.ref (d := 8) o_t0 e64 rfl
      refine gw_geti (k := 2) (ref := R_Whole) C hW o_q63 (by decide) rfl gi_Whole rfl (by decide) rfl rfl gk_242 gd_Equations_clearColumn_37 ?_
      refine lv_if_eq (tgt := 59) hx hb gd_Equations_clearColumn_40 (by decide) (fun c65 => ?_) (fun c65 => ?_)
      · have h := gf_t c65 h
        exact gx_Equations_clearColumn_b59 F C hr hk k_12 u58 t0 x1 x2 x3 o_t0 hW (lv_sub hl [0, 1, 2, 3] rfl) h
      · have h := gf_f c65 h
        refine lv_aload_n hx hb gd_Equations_clearColumn_43 rfl (lv_at hl 0 rfl) ?_
        obtain ⟨q66, e67, h⟩ := gf_nn_ok h
        refine gw_getr (k := 2) (ty := 10) (ref := R_Equations) C hW o_t0 (by decide) rfl gi_Equations rfl (by decide) rfl rfl gk_237 gd_Equations_clearColumn_44 e67 ?_
        have o_q66 := hW.ref (d := 10) o_t0 e67 rfl
        refine lv_aload_n hx hb gd_Equations_clearColumn_47 rfl (lv_at hl 0 rfl) ?_
        refine gw_geti (k := 15) (ref := R_Equations) C hW o_t0 (by decide) rfl gi_Equations rfl (by decide) rfl rfl gk_249 gd_Equations_clearColumn_48 ?_
        refine lv_iload_n hx hb gd_Equations_clearColumn_51 rfl (lv_at hl 3 rfl) ?_
        obtain ⟨a70, u68, d69, h⟩ := gf_cl_ok h
        refine gw_callSi (As := [.int (u58.1 t0 15), .int x3]) (rest := [.ref (hs q66)]) C hW (fun _ h => Or.inr h) hl.1 gm_Equations_at (gc_Equations_at l F  d69 _) gk_235 gk_236 rfl rfl ⟨Nat.le_of_ble_eq_true rfl, Nat.le_of_ble_eq_true rfl⟩ ⟨Nat.zero_le _, Nat.zero_le _⟩ rfl rfl (Nat.le_of_ble_eq_true rfl) gd_Equations_clearColumn_52 (fun H locs hW => ?_)
        obtain ⟨g71, h⟩ := gf_if_ok h
        refine gw_iald C hW o_q66 g71 gd_Equations_clearColumn_55 ?_
        refine lv_if_ne (tgt := 63) hx hb gd_Equations_clearColumn_56 (by decide) (fun c72 => ?_) (fun c72 => ?_)
        · have h := gf_f c72 h
          exact gx_Equations_clearColumn_b63 F C hr hk k_12 u68 t0 x1 x2 x3 o_t0 hW (lv_sub hl [0, 1, 2, 3] rfl) h
        · have h := gf_t c72 h
          exact gx_Equations_clearColumn_b59 F C hr hk k_12 u68 t0 x1 x2 x3 o_t0 hW (lv_sub hl [0, 1, 2, 3] rfl) h
set_option maxHeartbeats 4000000 in
set_option maxRecDepth 20000 in
theorem gx_Equations_clearColumn_L12 {p : Program} {l : Launch} {e : Env} {s : State} {m : MethodId} {args : Array Value} {below : List Frame} {meth : Method} {c : Code} {D : va_G} {cA : Nat → ClassId} {hs : Nat → Nat} {z : gw_Sh} (F : Nat) {r0 : gw_St} (C : gw_Cx p s m args c gb_Equations_clearColumn 5 R_Equations D cA) (hr : meth.sig.returnType = none) (hk : meth.locks = false) : ∀ (n : Nat), ∀ (u : gw_St) (t0 : Nat) (x1 : Int32) (x2 : Int32) (x3 : Int32) (H : Heap) (locs : List Loc) (ls : Array Slot), gw_ok z t0 4 → gw_Wx D cA hs z s u H locs → lv_has ls 5 [(0, .ref (hs t0)), (1, .int x1), (2, .int x2), (3, .int x3)] → gf_Equations_clearColumn_L12 F z  n u t0 x1 x2 x3 = some r0 → gw_Gv p l e gr_Equations_clearColumn s m args below meth c D cA hs z r0 H locs ls 12 [] := by
  intro n
  induction n with
  | zero =>
    intro u t0 x1 x2 x3 H locs ls o_t0 hW hl h
    cases h
  | succ n ih =>
    intro u t0 x1 x2 x3 H locs ls o_t0 hW hl h
    exact gx_Equations_clearColumn_S12 F C hr hk  ih u t0 x1 x2 x3 o_t0 hW hl h

set_option maxHeartbeats 4000000 in
set_option maxRecDepth 20000 in
theorem gx_Equations_clearColumn_b0 {p : Program} {l : Launch} {e : Env} {s : State} {m : MethodId} {args : Array Value} {below : List Frame} {meth : Method} {c : Code} {D : va_G} {cA : Nat → ClassId} {hs : Nat → Nat} {z : gw_Sh} (F : Nat) {r0 : gw_St} (C : gw_Cx p s m args c gb_Equations_clearColumn 5 R_Equations D cA) (hr : meth.sig.returnType = none) (hk : meth.locks = false) (u : gw_St) (t0 : Nat) (x1 : Int32) (x2 : Int32) (o_t0 : gw_ok z t0 4) {H : Heap} {locs : List Loc} {ls : Array Slot} (hW : gw_Wx D cA hs z s u H locs) (hl : lv_has ls 5 [(0, .ref (hs t0)), (1, .int x1), (2, .int x2)]) (h : gf_Equations_clearColumn_b0 F z   u t0 x1 x2 = some r0) : gw_Gv p l e gr_Equations_clearColumn s m args below meth c D cA hs z r0 H locs ls 0 [] := by
  obtain ⟨hx, hb, hml, hown, hts, hK⟩ := id C
  unfold gf_Equations_clearColumn_b0 at h
  refine lv_aload_n hx hb gd_Equations_clearColumn_0 rfl (lv_at hl 0 rfl) ?_
  refine lv_aload_n hx hb gd_Equations_clearColumn_1 rfl (lv_at hl 0 rfl) ?_
  obtain ⟨q73, e74, h⟩ := gf_nn_ok h
  refine gw_getr (k := 7) (ty := 8) (ref := R_Equations) C hW o_t0 (by decide) rfl gi_Equations rfl (by decide) rfl rfl gk_258 gd_Equations_clearColumn_2 e74 ?_
  have o_q73 := hW.ref (d := 8) o_t0 e74 rfl
  refine lv_iload_n hx hb gd_Equations_clearColumn_5 rfl (lv_at hl 1 rfl) ?_
  refine lv_iload_n hx hb gd_Equations_clearColumn_6 rfl (lv_at hl 2 rfl) ?_
  obtain ⟨u75, d76, h⟩ := gf_bd_ok h
  refine gw_callVv (K := R_Equations) (As := [.ref (hs q73), .int x1, .int x2]) (rest := []) C hW (fun _ h => Or.inr h) hl.1 gm_Equations_load (gc_Equations_load l F o_t0 o_q73 d76 _) gk_255 gk_256 gk_257 o_t0 (by decide) rfl rfl rfl ⟨Nat.le_of_ble_eq_true rfl, Nat.le_of_ble_eq_true rfl⟩ ⟨Nat.zero_le _, Nat.zero_le _⟩ rfl rfl (Nat.le_of_ble_eq_true rfl) gd_Equations_clearColumn_7 (fun H locs hW => ?_)
  refine lv_iconst (v := 0) hx hb gd_Equations_clearColumn_10 (by decide) ?_
  refine lv_istore_n (lv' := [(3, .int 0), (0, .ref (hs t0)), (1, .int x1), (2, .int x2)]) hx hb gd_Equations_clearColumn_11 rfl hl (by decide) rfl (fun ls hl => ?_)
  exact gx_Equations_clearColumn_L12 F C hr hk  F u75 t0 x1 x2 0 _ _ _ o_t0 hW (lv_sub hl [1, 2, 3, 0] rfl) h

set_option maxRecDepth 20000 in
theorem gc_Equations_clearColumn (l : Launch) {D : va_G} {cA : Nat → ClassId} {hs : Nat → Nat} {z : gw_Sh} (F : Nat) {u : gw_St} {r0 : gw_St} {t0 : Nat} {x1 : Int32} {x2 : Int32} (o_t0 : gw_ok z t0 4) (h : gf_Equations_clearColumn F z u t0 x1 x2 = some r0) (sz : Nat) : gw_Mv l gy_Equations_clearColumn gb_Equations_clearColumn 5 none gr_Equations_clearColumn [.ref (hs t0), .int x1, .int x2] D cA hs z u sz r0 := by
  refine gw_enter (by decide) (Nat.le_of_ble_eq_true rfl) ?_
  intro p e s m below meth c ls hsz C hW hr hk _ hl
  subst hsz
  exact gx_Equations_clearColumn_b0 F C hr hk u t0 x1 x2 o_t0 hW (lv_sub hl [0, 1, 2] rfl) h
-- GearDesk$Equations.giveColumn(I)V
theorem gk_280 : Cond.methodLink R_Equations 167 gy_Equations_clearColumn ∈ gt_T := gt_m5 (List.mem_of_getElem? (i := 100) rfl) rfl
theorem gk_281 : Cond.instanceMethod gy_Equations_clearColumn ∈ gt_T := gt_m5 (List.mem_of_getElem? (i := 102) rfl) rfl
theorem gk_282 : Cond.selects R_Equations gy_Equations_clearColumn gy_Equations_clearColumn ∈ gt_T := gt_p2 (List.mem_of_getElem? (i := 11) rfl) rfl
def gy_Equations_giveColumn : MethodName := ⟨R_Equations, "giveColumn", "(I)V"⟩
abbrev gb_Equations_giveColumn : ByteArray := prog_3_method_8_code
theorem gk_283 : Cond.code gy_Equations_giveColumn gb_Equations_giveColumn 3 none ∈ gt_T := gt_m5 (List.mem_of_getElem? (i := 99) rfl) rfl
def gr_Equations_giveColumn : Room := gw_rm 5 165
theorem gm_Equations_giveColumn : gw_Mth gy_Equations_giveColumn gb_Equations_giveColumn 3 none 1 := ⟨gk_283, gk_226, ⟨by decide +kernel, by decide +kernel⟩, by decide +kernel⟩
theorem gd_Equations_giveColumn_0 : decode gb_Equations_giveColumn 0 = .ok (.aload_n 0, 1) := by decide +kernel
theorem gd_Equations_giveColumn_1 : decode gb_Equations_giveColumn 1 = .ok (.aload_n 0, 1) := by decide +kernel
theorem gd_Equations_giveColumn_2 : decode gb_Equations_giveColumn 2 = .ok (.getfield 62, 3) := by decide +kernel
theorem gd_Equations_giveColumn_5 : decode gb_Equations_giveColumn 5 = .ok (.aload_n 0, 1) := by decide +kernel
theorem gd_Equations_giveColumn_6 : decode gb_Equations_giveColumn 6 = .ok (.getfield 78, 3) := by decide +kernel
theorem gd_Equations_giveColumn_9 : decode gb_Equations_giveColumn 9 = .ok (.iload_n 1, 1) := by decide +kernel
theorem gd_Equations_giveColumn_10 : decode gb_Equations_giveColumn 10 = .ok (.invokevirtual 160, 3) := by decide +kernel
theorem gd_Equations_giveColumn_13 : decode gb_Equations_giveColumn 13 = .ok (.iconst 0, 1) := by decide +kernel
theorem gd_Equations_giveColumn_14 : decode gb_Equations_giveColumn 14 = .ok (.istore_n 2, 1) := by decide +kernel
theorem gd_Equations_giveColumn_15 : decode gb_Equations_giveColumn 15 = .ok (.iload_n 2, 1) := by decide +kernel
theorem gd_Equations_giveColumn_16 : decode gb_Equations_giveColumn 16 = .ok (.aload_n 0, 1) := by decide +kernel
theorem gd_Equations_giveColumn_17 : decode gb_Equations_giveColumn 17 = .ok (.getfield 78, 3) := by decide +kernel
theorem gd_Equations_giveColumn_20 : decode gb_Equations_giveColumn 20 = .ok (.if_icmp .ge 15, 3) := by decide +kernel
theorem gd_Equations_giveColumn_23 : decode gb_Equations_giveColumn 23 = .ok (.aload_n 0, 1) := by decide +kernel
theorem gd_Equations_giveColumn_24 : decode gb_Equations_giveColumn 24 = .ok (.iload_n 2, 1) := by decide +kernel
theorem gd_Equations_giveColumn_25 : decode gb_Equations_giveColumn 25 = .ok (.iload_n 1, 1) := by decide +kernel
theorem gd_Equations_giveColumn_26 : decode gb_Equations_giveColumn 26 = .ok (.invokevirtual 167, 3) := by decide +kernel
theorem gd_Equations_giveColumn_29 : decode gb_Equations_giveColumn 29 = .ok (.iinc 2 1, 3) := by decide +kernel
theorem gd_Equations_giveColumn_32 : decode gb_Equations_giveColumn 32 = .ok (.goto (-17), 3) := by decide +kernel
theorem gd_Equations_giveColumn_35 : decode gb_Equations_giveColumn 35 = .ok (.aload_n 0, 1) := by decide +kernel
theorem gd_Equations_giveColumn_36 : decode gb_Equations_giveColumn 36 = .ok (.getfield 23, 3) := by decide +kernel
theorem gd_Equations_giveColumn_39 : decode gb_Equations_giveColumn 39 = .ok (.iload_n 1, 1) := by decide +kernel
theorem gd_Equations_giveColumn_40 : decode gb_Equations_giveColumn 40 = .ok (.aload_n 0, 1) := by decide +kernel
theorem gd_Equations_giveColumn_41 : decode gb_Equations_giveColumn 41 = .ok (.getfield 78, 3) := by decide +kernel
theorem gd_Equations_giveColumn_44 : decode gb_Equations_giveColumn 44 = .ok (.iastore, 1) := by decide +kernel
theorem gd_Equations_giveColumn_45 : decode gb_Equations_giveColumn 45 = .ok (.aload_n 0, 1) := by decide +kernel
theorem gd_Equations_giveColumn_46 : decode gb_Equations_giveColumn 46 = .ok (.dup, 1) := by decide +kernel
theorem gd_Equations_giveColumn_47 : decode gb_Equations_giveColumn 47 = .ok (.getfield 78, 3) := by decide +kernel
theorem gd_Equations_giveColumn_50 : decode gb_Equations_giveColumn 50 = .ok (.iconst 1, 1) := by decide +kernel
theorem gd_Equations_giveColumn_51 : decode gb_Equations_giveColumn 51 = .ok (.iadd, 1) := by decide +kernel
theorem gd_Equations_giveColumn_52 : decode gb_Equations_giveColumn 52 = .ok (.putfield 78, 3) := by decide +kernel
theorem gd_Equations_giveColumn_55 : decode gb_Equations_giveColumn 55 = .ok (.aload_n 0, 1) := by decide +kernel
theorem gd_Equations_giveColumn_56 : decode gb_Equations_giveColumn 56 = .ok (.getfield 59, 3) := by decide +kernel
theorem gd_Equations_giveColumn_59 : decode gb_Equations_giveColumn 59 = .ok (.astore_n 2, 1) := by decide +kernel
theorem gd_Equations_giveColumn_60 : decode gb_Equations_giveColumn 60 = .ok (.aload_n 0, 1) := by decide +kernel
theorem gd_Equations_giveColumn_61 : decode gb_Equations_giveColumn 61 = .ok (.aload_n 0, 1) := by decide +kernel
theorem gd_Equations_giveColumn_62 : decode gb_Equations_giveColumn 62 = .ok (.getfield 62, 3) := by decide +kernel
theorem gd_Equations_giveColumn_65 : decode gb_Equations_giveColumn 65 = .ok (.putfield 59, 3) := by decide +kernel
theorem gd_Equations_giveColumn_68 : decode gb_Equations_giveColumn 68 = .ok (.aload_n 0, 1) := by decide +kernel
theorem gd_Equations_giveColumn_69 : decode gb_Equations_giveColumn 69 = .ok (.aload_n 2, 1) := by decide +kernel
theorem gd_Equations_giveColumn_70 : decode gb_Equations_giveColumn 70 = .ok (.putfield 62, 3) := by decide +kernel
theorem gd_Equations_giveColumn_73 : decode gb_Equations_giveColumn 73 = .ok (.return_, 1) := by decide +kernel
def gf_Equations_giveColumn_S15 (F : Nat) (z : gw_Sh)  (rc_15 : gw_St → Nat → Int32 → Int32 → Option gw_St) (u : gw_St) (t0 : Nat) (x1 : Int32) (x2 : Int32) : Option gw_St :=
  if (u.1 t0 15) ≤ x2 then (gf_nn (u.2.2 t0 3) fun q2 => if (x1 < 0 ∨ z.2.2 q2 ≤ (x1).toNatClampNeg) then none else gf_nm (gw_wi u q2 (x1).toNatClampNeg (u.1 t0 15)) fun u5 => gf_nm (gw_wi u5 t0 15 ((u5.1 t0 15) + (1 : Int32))) fun u7 => gf_nn (u7.2.2 t0 11) fun q9 => gf_nn (u7.2.2 t0 12) fun q11 => gf_nm (gw_wr u7 t0 11 (q11 + 1)) fun u13 => gf_nm (gw_wr u13 t0 12 (q9 + 1)) fun u15 => some u15) else ((gf_Equations_clearColumn F z u t0 x2 x1).bind fun u17 => gf_nm (x2 + 1) fun a19 => rc_15 u17 t0 x1 a19)
def gf_Equations_giveColumn_L15 (F : Nat) (z : gw_Sh)  : Nat → gw_St → Nat → Int32 → Int32 → Option gw_St
  | 0 => fun _ _ _ _ => none
  | n + 1 => fun u t0 x1 x2 => gf_Equations_giveColumn_S15 F z  (gf_Equations_giveColumn_L15 F z  n) u t0 x1 x2
def gf_Equations_giveColumn_b0 (F : Nat) (z : gw_Sh)  (u : gw_St) (t0 : Nat) (x1 : Int32) : Option gw_St :=
  gf_nn (u.2.2 t0 12) fun q21 => (gf_Equations_load F z u t0 q21 (u.1 t0 15) x1).bind fun u23 => gf_Equations_giveColumn_L15 F z  F u23 t0 x1 0
def gf_Equations_giveColumn (F : Nat) (z : gw_Sh) (u : gw_St) (t0 : Nat) (x1 : Int32) : Option gw_St := gf_Equations_giveColumn_b0 F z  u t0 x1
set_option maxHeartbeats 4000000 in
set_option maxRecDepth 20000 in
theorem gx_Equations_giveColumn_S15 {p : Program} {l : Launch} {e : Env} {s : State} {m : MethodId} {args : Array Value} {below : List Frame} {meth : Method} {c : Code} {D : va_G} {cA : Nat → ClassId} {hs : Nat → Nat} {z : gw_Sh} (F : Nat) {r0 : gw_St} (C : gw_Cx p s m args c gb_Equations_giveColumn 3 R_Equations D cA) (hr : meth.sig.returnType = none) (hk : meth.locks = false) {rc_15 : gw_St → Nat → Int32 → Int32 → Option gw_St} (k_15 : ∀ (u : gw_St) (t0 : Nat) (x1 : Int32) (x2 : Int32) (H : Heap) (locs : List Loc) (ls : Array Slot), gw_ok z t0 4 → gw_Wx D cA hs z s u H locs → lv_has ls 3 [(0, .ref (hs t0)), (1, .int x1), (2, .int x2)] → rc_15 u t0 x1 x2 = some r0 → gw_Gv p l e gr_Equations_giveColumn s m args below meth c D cA hs z r0 H locs ls 15 []) (u : gw_St) (t0 : Nat) (x1 : Int32) (x2 : Int32) (o_t0 : gw_ok z t0 4) {H : Heap} {locs : List Loc} {ls : Array Slot} (hW : gw_Wx D cA hs z s u H locs) (hl : lv_has ls 3 [(0, .ref (hs t0)), (1, .int x1), (2, .int x2)]) (h : gf_Equations_giveColumn_S15 F z  rc_15 u t0 x1 x2 = some r0) : gw_Gv p l e gr_Equations_giveColumn s m args below meth c D cA hs z r0 H locs ls 15 [] := by
  obtain ⟨hx, hb, hml, hown, hts, hK⟩ := id C
  unfold gf_Equations_giveColumn_S15 at h
  refine lv_iload_n hx hb gd_Equations_giveColumn_15 rfl (lv_at hl 2 rfl) ?_
  refine lv_aload_n hx hb gd_Equations_giveColumn_16 rfl (lv_at hl 0 rfl) ?_
  refine gw_geti (k := 15) (ref := R_Equations) C hW o_t0 (by decide) rfl gi_Equations rfl (by decide) rfl rfl gk_249 gd_Equations_giveColumn_17 ?_
  refine lv_icmp_ge (tgt := 35) hx hb gd_Equations_giveColumn_20 (by decide) (fun c1 => ?_) (fun c1 => ?_)
  · have h := gf_t c1 h
    refine lv_aload_n hx hb gd_Equations_giveColumn_35 rfl (lv_at hl 0 rfl) ?_
    obtain ⟨q2, e3, h⟩ := gf_nn_ok h
    refine gw_getr (k := 3) (ty := 10) (ref := R_Equations) C hW o_t0 (by decide) rfl gi_Equations rfl (by decide) rfl rfl gk_253 gd_Equations_giveColumn_36 e3 ?_
    have o_q2 := hW.ref (d := 10) o_t0 e3 rfl
    refine lv_iload_n hx hb gd_Equations_giveColumn_39 rfl (lv_at hl 1 rfl) ?_
    refine lv_aload_n hx hb gd_Equations_giveColumn_40 rfl (lv_at hl 0 rfl) ?_
    refine gw_geti (k := 15) (ref := R_Equations) C hW o_t0 (by decide) rfl gi_Equations rfl (by decide) rfl rfl gk_249 gd_Equations_giveColumn_41 ?_
    obtain ⟨g4, h⟩ := gf_if_ok h
    refine gw_iast C hW o_q2 g4 gd_Equations_giveColumn_44 (fun u5 H locs e6 hW => ?_)
    have h := gf_nm_ok e6 h
    refine lv_aload_n hx hb gd_Equations_giveColumn_45 rfl (lv_at hl 0 rfl) ?_
    refine lv_dup hx hb gd_Equations_giveColumn_46 rfl ?_
    refine gw_geti (k := 15) (ref := R_Equations) C hW o_t0 (by decide) rfl gi_Equations rfl (by decide) rfl rfl gk_249 gd_Equations_giveColumn_47 ?_
    refine lv_iconst (v := 1) hx hb gd_Equations_giveColumn_50 (by decide) ?_
    refine lv_iadd hx hb gd_Equations_giveColumn_51 ?_
    refine gw_puti (k := 15) (ref := R_Equations) (fty := .int) C hW o_t0 (by decide) rfl gi_Equations rfl (by decide) rfl rfl gk_249 tf_Equations tf_Equations_ok nm_Equations rfl rfl rfl rfl gd_Equations_giveColumn_52 (fun u7 H locs e8 hW => ?_)
    have h := gf_nm_ok e8 h
    refine lv_aload_n hx hb gd_Equations_giveColumn_55 rfl (lv_at hl 0 rfl) ?_
    obtain ⟨q9, e10, h⟩ := gf_nn_ok h
    refine gw_getr (k := 11) (ty := 8) (ref := R_Equations) C hW o_t0 (by decide) rfl gi_Equations rfl (by decide) rfl rfl gk_267 gd_Equations_giveColumn_56 e10 ?_
    have o_q9 := hW.ref (d := 8) o_t0 e10 rfl
    refine lv_astore_n (lv' := [(2, .ref (hs q9)), (0, .ref (hs t0)), (1, .int x1)]) hx hb gd_Equations_giveColumn_59 rfl hl (by decide) rfl (fun ls hl => ?_)
    refine lv_aload_n hx hb gd_Equations_giveColumn_60 rfl (lv_at hl 1 rfl) ?_
    refine lv_aload_n hx hb gd_Equations_giveColumn_61 rfl (lv_at hl 1 rfl) ?_
    obtain ⟨q11, e12, h⟩ := gf_nn_ok h
    refine gw_getr (k := 12) (ty := 8) (ref := R_Equations) C hW o_t0 (by decide) rfl gi_Equations rfl (by decide) rfl rfl gk_275 gd_Equations_giveColumn_62 e12 ?_
    have o_q11 := hW.ref (d := 8) o_t0 e12 rfl
    refine gw_putr (k := 11) (ty := 8) (ref := R_Equations) (fty := .object R_Whole) C hW o_t0 o_q11 (by decide) rfl gi_Equations rfl (by decide) rfl rfl gk_267 tf_Equations tf_Equations_ok nm_Equations rfl rfl (fun _ => rfl) (fun _ => rfl) gd_Equations_giveColumn_65 (fun u13 H locs e14 hW => ?_)
    have h := gf_nm_ok e14 h
    refine lv_aload_n hx hb gd_Equations_giveColumn_68 rfl (lv_at hl 1 rfl) ?_
    refine lv_aload_n hx hb gd_Equations_giveColumn_69 rfl (lv_at hl 0 rfl) ?_
    refine gw_putr (k := 12) (ty := 8) (ref := R_Equations) (fty := .object R_Whole) C hW o_t0 o_q9 (by decide) rfl gi_Equations rfl (by decide) rfl rfl gk_275 tf_Equations tf_Equations_ok nm_Equations rfl rfl (fun _ => rfl) (fun _ => rfl) gd_Equations_giveColumn_70 (fun u15 H locs e16 hW => ?_)
    have h := gf_nm_ok e16 h
    obtain rfl := Option.some.inj h
    exact gw_vret C hW hr hk gd_Equations_giveColumn_73
  · have h := gf_f c1 h
    refine lv_aload_n hx hb gd_Equations_giveColumn_23 rfl (lv_at hl 0 rfl) ?_
    refine lv_iload_n hx hb gd_Equations_giveColumn_24 rfl (lv_at hl 2 rfl) ?_
    refine lv_iload_n hx hb gd_Equations_giveColumn_25 rfl (lv_at hl 1 rfl) ?_
    obtain ⟨u17, d18, h⟩ := gf_bd_ok h
    refine gw_callVv (K := R_Equations) (As := [.int x2, .int x1]) (rest := []) C hW (fun _ h => Or.inr h) hl.1 gm_Equations_clearColumn (gc_Equations_clearColumn l F o_t0 d18 _) gk_280 gk_281 gk_282 o_t0 (by decide) rfl rfl rfl ⟨Nat.le_of_ble_eq_true rfl, Nat.le_of_ble_eq_true rfl⟩ ⟨Nat.zero_le _, Nat.zero_le _⟩ rfl rfl (Nat.le_of_ble_eq_true rfl) gd_Equations_giveColumn_26 (fun H locs hW => ?_)
    obtain ⟨a19, e20⟩ : ∃ y : Int32, y = x2 + 1 := ⟨_, rfl⟩
    have h := gf_nm_ok e20 h
    refine lv_iinc (v := a19) (lv' := [(2, .int a19), (0, .ref (hs t0)), (1, .int x1)]) hx hb gd_Equations_giveColumn_29 hl (k := 2) rfl (by rw [e20]; rfl) (by decide) rfl (fun ls hl => ?_)
    refine lv_goto (tgt := 15) hx hb gd_Equations_giveColumn_32 (by decide) ?_
    exact k_15 u17 t0 x1 a19 _ _ _ o_t0 hW (lv_sub hl [1, 2, 0] rfl) h
set_option maxHeartbeats 4000000 in
set_option maxRecDepth 20000 in
theorem gx_Equations_giveColumn_L15 {p : Program} {l : Launch} {e : Env} {s : State} {m : MethodId} {args : Array Value} {below : List Frame} {meth : Method} {c : Code} {D : va_G} {cA : Nat → ClassId} {hs : Nat → Nat} {z : gw_Sh} (F : Nat) {r0 : gw_St} (C : gw_Cx p s m args c gb_Equations_giveColumn 3 R_Equations D cA) (hr : meth.sig.returnType = none) (hk : meth.locks = false) : ∀ (n : Nat), ∀ (u : gw_St) (t0 : Nat) (x1 : Int32) (x2 : Int32) (H : Heap) (locs : List Loc) (ls : Array Slot), gw_ok z t0 4 → gw_Wx D cA hs z s u H locs → lv_has ls 3 [(0, .ref (hs t0)), (1, .int x1), (2, .int x2)] → gf_Equations_giveColumn_L15 F z  n u t0 x1 x2 = some r0 → gw_Gv p l e gr_Equations_giveColumn s m args below meth c D cA hs z r0 H locs ls 15 [] := by
  intro n
  induction n with
  | zero =>
    intro u t0 x1 x2 H locs ls o_t0 hW hl h
    cases h
  | succ n ih =>
    intro u t0 x1 x2 H locs ls o_t0 hW hl h
    exact gx_Equations_giveColumn_S15 F C hr hk  ih u t0 x1 x2 o_t0 hW hl h

set_option maxHeartbeats 4000000 in
set_option maxRecDepth 20000 in
theorem gx_Equations_giveColumn_b0 {p : Program} {l : Launch} {e : Env} {s : State} {m : MethodId} {args : Array Value} {below : List Frame} {meth : Method} {c : Code} {D : va_G} {cA : Nat → ClassId} {hs : Nat → Nat} {z : gw_Sh} (F : Nat) {r0 : gw_St} (C : gw_Cx p s m args c gb_Equations_giveColumn 3 R_Equations D cA) (hr : meth.sig.returnType = none) (hk : meth.locks = false) (u : gw_St) (t0 : Nat) (x1 : Int32) (o_t0 : gw_ok z t0 4) {H : Heap} {locs : List Loc} {ls : Array Slot} (hW : gw_Wx D cA hs z s u H locs) (hl : lv_has ls 3 [(0, .ref (hs t0)), (1, .int x1)]) (h : gf_Equations_giveColumn_b0 F z   u t0 x1 = some r0) : gw_Gv p l e gr_Equations_giveColumn s m args below meth c D cA hs z r0 H locs ls 0 [] := by
  obtain ⟨hx, hb, hml, hown, hts, hK⟩ := id C
  unfold gf_Equations_giveColumn_b0 at h
  refine lv_aload_n hx hb gd_Equations_giveColumn_0 rfl (lv_at hl 0 rfl) ?_
  refine lv_aload_n hx hb gd_Equations_giveColumn_1 rfl (lv_at hl 0 rfl) ?_
  obtain ⟨q21, e22, h⟩ := gf_nn_ok h
  refine gw_getr (k := 12) (ty := 8) (ref := R_Equations) C hW o_t0 (by decide) rfl gi_Equations rfl (by decide) rfl rfl gk_275 gd_Equations_giveColumn_2 e22 ?_
  have o_q21 := hW.ref (d := 8) o_t0 e22 rfl
  refine lv_aload_n hx hb gd_Equations_giveColumn_5 rfl (lv_at hl 0 rfl) ?_
  refine gw_geti (k := 15) (ref := R_Equations) C hW o_t0 (by decide) rfl gi_Equations rfl (by decide) rfl rfl gk_249 gd_Equations_giveColumn_6 ?_
  refine lv_iload_n hx hb gd_Equations_giveColumn_9 rfl (lv_at hl 1 rfl) ?_
  obtain ⟨u23, d24, h⟩ := gf_bd_ok h
  refine gw_callVv (K := R_Equations) (As := [.ref (hs q21), .int (u.1 t0 15), .int x1]) (rest := []) C hW (fun _ h => Or.inr h) hl.1 gm_Equations_load (gc_Equations_load l F o_t0 o_q21 d24 _) gk_255 gk_256 gk_257 o_t0 (by decide) rfl rfl rfl ⟨Nat.le_of_ble_eq_true rfl, Nat.le_of_ble_eq_true rfl⟩ ⟨Nat.zero_le _, Nat.zero_le _⟩ rfl rfl (Nat.le_of_ble_eq_true rfl) gd_Equations_giveColumn_10 (fun H locs hW => ?_)
  refine lv_iconst (v := 0) hx hb gd_Equations_giveColumn_13 (by decide) ?_
  refine lv_istore_n (lv' := [(2, .int 0), (0, .ref (hs t0)), (1, .int x1)]) hx hb gd_Equations_giveColumn_14 rfl hl (by decide) rfl (fun ls hl => ?_)
  exact gx_Equations_giveColumn_L15 F C hr hk  F u23 t0 x1 0 _ _ _ o_t0 hW (lv_sub hl [1, 2, 0] rfl) h

set_option maxRecDepth 20000 in
theorem gc_Equations_giveColumn (l : Launch) {D : va_G} {cA : Nat → ClassId} {hs : Nat → Nat} {z : gw_Sh} (F : Nat) {u : gw_St} {r0 : gw_St} {t0 : Nat} {x1 : Int32} (o_t0 : gw_ok z t0 4) (h : gf_Equations_giveColumn F z u t0 x1 = some r0) (sz : Nat) : gw_Mv l gy_Equations_giveColumn gb_Equations_giveColumn 3 none gr_Equations_giveColumn [.ref (hs t0), .int x1] D cA hs z u sz r0 := by
  refine gw_enter (by decide) (Nat.le_of_ble_eq_true rfl) ?_
  intro p e s m below meth c ls hsz C hW hr hk _ hl
  subst hsz
  exact gx_Equations_giveColumn_b0 F C hr hk u t0 x1 o_t0 hW (lv_sub hl [0, 1] rfl) h
-- GearDesk$Equations.takeAll(LGearDesk$Works;)I
theorem gk_284 : Cond.fieldLink R_Equations 91 R_Works "relations" "I" ∈ gt_T := gt_m1 (List.mem_of_getElem? (i := 114) rfl) rfl
theorem gk_285 : Cond.methodLink R_Equations 94 gy_Equations_setTerms ∈ gt_T := gt_m5 (List.mem_of_getElem? (i := 44) rfl) rfl
theorem gk_286 : Cond.instanceMethod gy_Equations_setTerms ∈ gt_T := gt_m5 (List.mem_of_getElem? (i := 46) rfl) rfl
theorem gk_287 : Cond.selects R_Equations gy_Equations_setTerms gy_Equations_setTerms ∈ gt_T := gt_p2 (List.mem_of_getElem? (i := 3) rfl) rfl
theorem gk_288 : Cond.methodLink R_Equations 98 gy_Equations_makeNewRow ∈ gt_T := gt_m5 (List.mem_of_getElem? (i := 53) rfl) rfl
theorem gk_289 : Cond.instanceMethod gy_Equations_makeNewRow ∈ gt_T := gt_m5 (List.mem_of_getElem? (i := 55) rfl) rfl
theorem gk_290 : Cond.selects R_Equations gy_Equations_makeNewRow gy_Equations_makeNewRow ∈ gt_T := gt_p2 (List.mem_of_getElem? (i := 5) rfl) rfl
theorem gk_291 : Cond.methodLink R_Equations 102 gy_Equations_giveColumn ∈ gt_T := gt_m5 (List.mem_of_getElem? (i := 96) rfl) rfl
theorem gk_292 : Cond.instanceMethod gy_Equations_giveColumn ∈ gt_T := gt_m5 (List.mem_of_getElem? (i := 98) rfl) rfl
theorem gk_293 : Cond.selects R_Equations gy_Equations_giveColumn gy_Equations_giveColumn ∈ gt_T := gt_p2 (List.mem_of_getElem? (i := 10) rfl) rfl
theorem gk_294 : Cond.fieldLink R_Equations 65 R_Works "gears" "I" ∈ gt_T := gt_m1 (List.mem_of_getElem? (i := 111) rfl) rfl
theorem gk_295 : Cond.fieldLink R_Equations 74 R_Works "crank" "I" ∈ gt_T := gt_m1 (List.mem_of_getElem? (i := 118) rfl) rfl
theorem gk_296 : Cond.methodLink R_Equations 85 gy_Arrays_fill1 ∈ gt_T := gt_m5 (List.mem_of_getElem? (i := 43) rfl) rfl
def gy_Equations_takeAll : MethodName := ⟨R_Equations, "takeAll", "(LGearDesk$Works;)I"⟩
abbrev gb_Equations_takeAll : ByteArray := prog_3_method_2_code
theorem gk_297 : Cond.code gy_Equations_takeAll gb_Equations_takeAll 4 (some .int) ∈ gt_T := gt_m5 (List.mem_of_getElem? (i := 41) rfl) rfl
def gr_Equations_takeAll : Room := gw_rm 6 187
theorem gm_Equations_takeAll : gw_Mth gy_Equations_takeAll gb_Equations_takeAll 4 (some .int) 1 := ⟨gk_297, gk_226, ⟨by decide +kernel, by decide +kernel⟩, by decide +kernel⟩
theorem gd_Equations_takeAll_0 : decode gb_Equations_takeAll 0 = .ok (.aload_n 0, 1) := by decide +kernel
theorem gd_Equations_takeAll_1 : decode gb_Equations_takeAll 1 = .ok (.aload_n 1, 1) := by decide +kernel
theorem gd_Equations_takeAll_2 : decode gb_Equations_takeAll 2 = .ok (.getfield 65, 3) := by decide +kernel
theorem gd_Equations_takeAll_5 : decode gb_Equations_takeAll 5 = .ok (.putfield 71, 3) := by decide +kernel
theorem gd_Equations_takeAll_8 : decode gb_Equations_takeAll 8 = .ok (.aload_n 0, 1) := by decide +kernel
theorem gd_Equations_takeAll_9 : decode gb_Equations_takeAll 9 = .ok (.aload_n 1, 1) := by decide +kernel
theorem gd_Equations_takeAll_10 : decode gb_Equations_takeAll 10 = .ok (.getfield 74, 3) := by decide +kernel
theorem gd_Equations_takeAll_13 : decode gb_Equations_takeAll 13 = .ok (.putfield 77, 3) := by decide +kernel
theorem gd_Equations_takeAll_16 : decode gb_Equations_takeAll 16 = .ok (.aload_n 0, 1) := by decide +kernel
theorem gd_Equations_takeAll_17 : decode gb_Equations_takeAll 17 = .ok (.iconst 0, 1) := by decide +kernel
theorem gd_Equations_takeAll_18 : decode gb_Equations_takeAll 18 = .ok (.putfield 78, 3) := by decide +kernel
theorem gd_Equations_takeAll_21 : decode gb_Equations_takeAll 21 = .ok (.aload_n 0, 1) := by decide +kernel
theorem gd_Equations_takeAll_22 : decode gb_Equations_takeAll 22 = .ok (.getfield 59, 3) := by decide +kernel
theorem gd_Equations_takeAll_25 : decode gb_Equations_takeAll 25 = .ok (.lconst 1, 1) := by decide +kernel
theorem gd_Equations_takeAll_26 : decode gb_Equations_takeAll 26 = .ok (.invokevirtual 81, 3) := by decide +kernel
theorem gd_Equations_takeAll_29 : decode gb_Equations_takeAll 29 = .ok (.aload_n 0, 1) := by decide +kernel
theorem gd_Equations_takeAll_30 : decode gb_Equations_takeAll 30 = .ok (.getfield 23, 3) := by decide +kernel
theorem gd_Equations_takeAll_33 : decode gb_Equations_takeAll 33 = .ok (.iconst (-1), 1) := by decide +kernel
theorem gd_Equations_takeAll_34 : decode gb_Equations_takeAll 34 = .ok (.invokestatic 85, 3) := by decide +kernel
theorem gd_Equations_takeAll_37 : decode gb_Equations_takeAll 37 = .ok (.iconst 0, 1) := by decide +kernel
theorem gd_Equations_takeAll_38 : decode gb_Equations_takeAll 38 = .ok (.istore_n 2, 1) := by decide +kernel
theorem gd_Equations_takeAll_39 : decode gb_Equations_takeAll 39 = .ok (.iload_n 2, 1) := by decide +kernel
theorem gd_Equations_takeAll_40 : decode gb_Equations_takeAll 40 = .ok (.aload_n 1, 1) := by decide +kernel
theorem gd_Equations_takeAll_41 : decode gb_Equations_takeAll 41 = .ok (.getfield 91, 3) := by decide +kernel
theorem gd_Equations_takeAll_44 : decode gb_Equations_takeAll 44 = .ok (.if_icmp .ge 54, 3) := by decide +kernel
theorem gd_Equations_takeAll_47 : decode gb_Equations_takeAll 47 = .ok (.aload_n 0, 1) := by decide +kernel
theorem gd_Equations_takeAll_48 : decode gb_Equations_takeAll 48 = .ok (.aload_n 1, 1) := by decide +kernel
theorem gd_Equations_takeAll_49 : decode gb_Equations_takeAll 49 = .ok (.iload_n 2, 1) := by decide +kernel
theorem gd_Equations_takeAll_50 : decode gb_Equations_takeAll 50 = .ok (.invokevirtual 94, 3) := by decide +kernel
theorem gd_Equations_takeAll_53 : decode gb_Equations_takeAll 53 = .ok (.aload_n 0, 1) := by decide +kernel
theorem gd_Equations_takeAll_54 : decode gb_Equations_takeAll 54 = .ok (.invokevirtual 98, 3) := by decide +kernel
theorem gd_Equations_takeAll_57 : decode gb_Equations_takeAll 57 = .ok (.istore_n 3, 1) := by decide +kernel
theorem gd_Equations_takeAll_58 : decode gb_Equations_takeAll 58 = .ok (.iload_n 3, 1) := by decide +kernel
theorem gd_Equations_takeAll_59 : decode gb_Equations_takeAll 59 = .ok (.iconst (-1), 1) := by decide +kernel
theorem gd_Equations_takeAll_60 : decode gb_Equations_takeAll 60 = .ok (.if_icmp .eq 11, 3) := by decide +kernel
theorem gd_Equations_takeAll_63 : decode gb_Equations_takeAll 63 = .ok (.aload_n 0, 1) := by decide +kernel
theorem gd_Equations_takeAll_64 : decode gb_Equations_takeAll 64 = .ok (.iload_n 3, 1) := by decide +kernel
theorem gd_Equations_takeAll_65 : decode gb_Equations_takeAll 65 = .ok (.invokevirtual 102, 3) := by decide +kernel
theorem gd_Equations_takeAll_68 : decode gb_Equations_takeAll 68 = .ok (.goto 24, 3) := by decide +kernel
theorem gd_Equations_takeAll_71 : decode gb_Equations_takeAll 71 = .ok (.aload_n 0, 1) := by decide +kernel
theorem gd_Equations_takeAll_72 : decode gb_Equations_takeAll 72 = .ok (.getfield 20, 3) := by decide +kernel
theorem gd_Equations_takeAll_75 : decode gb_Equations_takeAll 75 = .ok (.aload_n 0, 1) := by decide +kernel
theorem gd_Equations_takeAll_76 : decode gb_Equations_takeAll 76 = .ok (.getfield 78, 3) := by decide +kernel
theorem gd_Equations_takeAll_79 : decode gb_Equations_takeAll 79 = .ok (.aload_n 0, 1) := by decide +kernel
theorem gd_Equations_takeAll_80 : decode gb_Equations_takeAll 80 = .ok (.getfield 77, 3) := by decide +kernel
theorem gd_Equations_takeAll_83 : decode gb_Equations_takeAll 83 = .ok (.invokestatic 105, 3) := by decide +kernel
theorem gd_Equations_takeAll_86 : decode gb_Equations_takeAll 86 = .ok (.iaload, 1) := by decide +kernel
theorem gd_Equations_takeAll_87 : decode gb_Equations_takeAll 87 = .ok (.ifCond .eq 5, 3) := by decide +kernel
theorem gd_Equations_takeAll_90 : decode gb_Equations_takeAll 90 = .ok (.iload_n 2, 1) := by decide +kernel
theorem gd_Equations_takeAll_91 : decode gb_Equations_takeAll 91 = .ok (.ireturn, 1) := by decide +kernel
theorem gd_Equations_takeAll_92 : decode gb_Equations_takeAll 92 = .ok (.iinc 2 1, 3) := by decide +kernel
theorem gd_Equations_takeAll_95 : decode gb_Equations_takeAll 95 = .ok (.goto (-56), 3) := by decide +kernel
theorem gd_Equations_takeAll_98 : decode gb_Equations_takeAll 98 = .ok (.iconst (-1), 1) := by decide +kernel
theorem gd_Equations_takeAll_99 : decode gb_Equations_takeAll 99 = .ok (.ireturn, 1) := by decide +kernel
def gf_Equations_takeAll_b92 (F : Nat) (z : gw_Sh) (rc_39 : gw_St → Nat → Nat → Int32 → Option (Int32 × gw_St)) (u : gw_St) (t0 : Nat) (t1 : Nat) (x2 : Int32) : Option (Int32 × gw_St) :=
  gf_nm (x2 + 1) fun a1 => rc_39 u t0 t1 a1
def gf_Equations_takeAll_S39 (F : Nat) (z : gw_Sh)  (rc_39 : gw_St → Nat → Nat → Int32 → Option (Int32 × gw_St)) (u : gw_St) (t0 : Nat) (t1 : Nat) (x2 : Int32) : Option (Int32 × gw_St) :=
  if (u.1 t1 3) ≤ x2 then (some ((-1 : Int32), u)) else ((gf_Equations_setTerms F z u t0 t1 x2).bind fun u4 => gf_cl (gf_Equations_makeNewRow F z u4 t0) fun a8 u6 => if a8 = (-1 : Int32) then (gf_nn (u6.2.2 t0 2) fun q10 => gf_cl (gf_Equations_at F z u6 (u6.1 t0 15) (u6.1 t0 16)) fun a14 u12 => if (a14 < 0 ∨ z.2.2 q10 ≤ (a14).toNatClampNeg) then none else if (u12.1 q10 (a14).toNatClampNeg) = 0 then (gf_Equations_takeAll_b92 F z rc_39 u12 t0 t1 x2) else (some (x2, u12))) else ((gf_Equations_giveColumn F z u6 t0 a8).bind fun u17 => gf_Equations_takeAll_b92 F z rc_39 u17 t0 t1 x2))
def gf_Equations_takeAll_L39 (F : Nat) (z : gw_Sh)  : Nat → gw_St → Nat → Nat → Int32 → Option (Int32 × gw_St)
  | 0 => fun _ _ _ _ => none
  | n + 1 => fun u t0 t1 x2 => gf_Equations_takeAll_S39 F z  (gf_Equations_takeAll_L39 F z  n) u t0 t1 x2
def gf_Equations_takeAll_b0 (F : Nat) (z : gw_Sh)  (u : gw_St) (t0 : Nat) (t1 : Nat) : Option (Int32 × gw_St) :=
  gf_nm (gw_wi u t0 14 (u.1 t1 2)) fun u19 => gf_nm (gw_wi u19 t0 16 (u19.1 t1 4)) fun u21 => gf_nm (gw_wi u21 t0 15 (0 : Int32)) fun u23 => gf_nn (u23.2.2 t0 11) fun q25 => (gf_Whole_setLong F z u23 q25 (1 : Int64)).bind fun u27 => gf_nn (u27.2.2 t0 3) fun q29 => (gf_Arrays_fill1 F z u27 q29 (-1 : Int32)).bind fun u31 => gf_Equations_takeAll_L39 F z  F u31 t0 t1 0
def gf_Equations_takeAll (F : Nat) (z : gw_Sh) (u : gw_St) (t0 : Nat) (t1 : Nat) : Option (Int32 × gw_St) := gf_Equations_takeAll_b0 F z  u t0 t1
set_option maxHeartbeats 4000000 in
set_option maxRecDepth 20000 in
theorem gx_Equations_takeAll_b92 {p : Program} {l : Launch} {e : Env} {s : State} {m : MethodId} {args : Array Value} {below : List Frame} {meth : Method} {c : Code} {D : va_G} {cA : Nat → ClassId} {hs : Nat → Nat} {z : gw_Sh} (F : Nat) {r0 : (Int32 × gw_St)} (C : gw_Cx p s m args c gb_Equations_takeAll 4 R_Equations D cA) (hr : meth.sig.returnType = (some .int)) (hk : meth.locks = false) {rc_39 : gw_St → Nat → Nat → Int32 → Option (Int32 × gw_St)} (k_39 : ∀ (u : gw_St) (t0 : Nat) (t1 : Nat) (x2 : Int32) (H : Heap) (locs : List Loc) (ls : Array Slot), gw_ok z t0 4 → gw_ok z t1 2 → gw_Wx D cA hs z s u H locs → lv_has ls 4 [(0, .ref (hs t0)), (1, .ref (hs t1)), (2, .int x2)] → rc_39 u t0 t1 x2 = some r0 → gw_Gi p l e gr_Equations_takeAll s m args below meth c D cA hs z r0 H locs ls 39 []) (u : gw_St) (t0 : Nat) (t1 : Nat) (x2 : Int32) (o_t0 : gw_ok z t0 4) (o_t1 : gw_ok z t1 2) {H : Heap} {locs : List Loc} {ls : Array Slot} (hW : gw_Wx D cA hs z s u H locs) (hl : lv_has ls 4 [(0, .ref (hs t0)), (1, .ref (hs t1)), (2, .int x2)]) (h : gf_Equations_takeAll_b92 F z rc_39  u t0 t1 x2 = some r0) : gw_Gi p l e gr_Equations_takeAll s m args below meth c D cA hs z r0 H locs ls 92 [] := by
  obtain ⟨hx, hb, hml, hown, hts, hK⟩ := id C
  unfold gf_Equations_takeAll_b92 at h
  obtain ⟨a1, e2⟩ : ∃ y : Int32, y = x2 + 1 := ⟨_, rfl⟩
  have h := gf_nm_ok e2 h
  refine lv_iinc (v := a1) (lv' := [(2, .int a1), (0, .ref (hs t0)), (1, .ref (hs t1))]) hx hb gd_Equations_takeAll_92 hl (k := 2) rfl (by rw [e2]; rfl) (by decide) rfl (fun ls hl => ?_)
  refine lv_goto (tgt := 39) hx hb gd_Equations_takeAll_95 (by decide) ?_
  exact k_39 u t0 t1 a1 _ _ _ o_t0 o_t1 hW (lv_sub hl [1, 2, 0] rfl) h

set_option maxHeartbeats 4000000 in
set_option maxRecDepth 20000 in
theorem gx_Equations_takeAll_S39 {p : Program} {l : Launch} {e : Env} {s : State} {m : MethodId} {args : Array Value} {below : List Frame} {meth : Method} {c : Code} {D : va_G} {cA : Nat → ClassId} {hs : Nat → Nat} {z : gw_Sh} (F : Nat) {r0 : (Int32 × gw_St)} (C : gw_Cx p s m args c gb_Equations_takeAll 4 R_Equations D cA) (hr : meth.sig.returnType = (some .int)) (hk : meth.locks = false) {rc_39 : gw_St → Nat → Nat → Int32 → Option (Int32 × gw_St)} (k_39 : ∀ (u : gw_St) (t0 : Nat) (t1 : Nat) (x2 : Int32) (H : Heap) (locs : List Loc) (ls : Array Slot), gw_ok z t0 4 → gw_ok z t1 2 → gw_Wx D cA hs z s u H locs → lv_has ls 4 [(0, .ref (hs t0)), (1, .ref (hs t1)), (2, .int x2)] → rc_39 u t0 t1 x2 = some r0 → gw_Gi p l e gr_Equations_takeAll s m args below meth c D cA hs z r0 H locs ls 39 []) (u : gw_St) (t0 : Nat) (t1 : Nat) (x2 : Int32) (o_t0 : gw_ok z t0 4) (o_t1 : gw_ok z t1 2) {H : Heap} {locs : List Loc} {ls : Array Slot} (hW : gw_Wx D cA hs z s u H locs) (hl : lv_has ls 4 [(0, .ref (hs t0)), (1, .ref (hs t1)), (2, .int x2)]) (h : gf_Equations_takeAll_S39 F z  rc_39 u t0 t1 x2 = some r0) : gw_Gi p l e gr_Equations_takeAll s m args below meth c D cA hs z r0 H locs ls 39 [] := by
  obtain ⟨hx, hb, hml, hown, hts, hK⟩ := id C
  unfold gf_Equations_takeAll_S39 at h
  refine lv_iload_n hx hb gd_Equations_takeAll_39 rfl (lv_at hl 2 rfl) ?_
  refine lv_aload_n hx hb gd_Equations_takeAll_40 rfl (lv_at hl 1 rfl) ?_
  refine gw_geti (k := 3) (ref := R_Works) C hW o_t1 (by decide) rfl gi_Works rfl (by decide) rfl rfl gk_284 gd_Equations_takeAll_41 ?_
  refine lv_icmp_ge (tgt := 98) hx hb gd_Equations_takeAll_44 (by decide) (fun c3 => ?_) (fun c3 => ?_)
  · have h := gf_t c3 h
    refine lv_iconst (v := (-1)) hx hb gd_Equations_takeAll_98 (by decide) ?_
    obtain rfl := Option.some.inj h
    exact gw_iret C hW hr hk gd_Equations_takeAll_99
  · have h := gf_f c3 h
    refine lv_aload_n hx hb gd_Equations_takeAll_47 rfl (lv_at hl 0 rfl) ?_
    refine lv_aload_n hx hb gd_Equations_takeAll_48 rfl (lv_at hl 1 rfl) ?_
    refine lv_iload_n hx hb gd_Equations_takeAll_49 rfl (lv_at hl 2 rfl) ?_
    obtain ⟨u4, d5, h⟩ := gf_bd_ok h
    refine gw_callVv (K := R_Equations) (As := [.ref (hs t1), .int x2]) (rest := []) C hW (fun _ h => Or.inr h) hl.1 gm_Equations_setTerms (gc_Equations_setTerms l F o_t0 o_t1 d5 _) gk_285 gk_286 gk_287 o_t0 (by decide) rfl rfl rfl ⟨Nat.le_of_ble_eq_true rfl, Nat.le_of_ble_eq_true rfl⟩ ⟨Nat.zero_le _, Nat.zero_le _⟩ rfl rfl (Nat.le_of_ble_eq_true rfl) gd_Equations_takeAll_50 (fun H locs hW => ?_)
    refine lv_aload_n hx hb gd_Equations_takeAll_53 rfl (lv_at hl 0 rfl) ?_
    obtain ⟨a8, u6, d7, h⟩ := gf_cl_ok h
    refine gw_callVi (K := R_Equations) (As := []) (rest := []) C hW (fun _ h => Or.inr h) hl.1 gm_Equations_makeNewRow (gc_Equations_makeNewRow l F o_t0 d7 _) gk_288 gk_289 gk_290 o_t0 (by decide) rfl rfl rfl ⟨Nat.le_of_ble_eq_true rfl, Nat.le_of_ble_eq_true rfl⟩ ⟨Nat.zero_le _, Nat.zero_le _⟩ rfl rfl (Nat.le_of_ble_eq_true rfl) gd_Equations_takeAll_54 (fun H locs hW => ?_)
    refine lv_istore_n (lv' := [(3, .int a8), (0, .ref (hs t0)), (1, .ref (hs t1)), (2, .int x2)]) hx hb gd_Equations_takeAll_57 rfl hl (by decide) rfl (fun ls hl => ?_)
    refine lv_iload_n hx hb gd_Equations_takeAll_58 rfl (lv_at hl 0 rfl) ?_
    refine lv_iconst (v := (-1)) hx hb gd_Equations_takeAll_59 (by decide) ?_
    refine lv_icmp_eq (tgt := 71) hx hb gd_Equations_takeAll_60 (by decide) (fun c9 => ?_) (fun c9 => ?_)
    · have h := gf_t c9 h
      refine lv_aload_n hx hb gd_Equations_takeAll_71 rfl (lv_at hl 1 rfl) ?_
      obtain ⟨q10, e11, h⟩ := gf_nn_ok h
      refine gw_getr (k := 2) (ty := 10) (ref := R_Equations) C hW o_t0 (by decide) rfl gi_Equations rfl (by decide) rfl rfl gk_237 gd_Equations_takeAll_72 e11 ?_
      have o_q10 := hW.ref (d := 10) o_t0 e11 rfl
      refine lv_aload_n hx hb gd_Equations_takeAll_75 rfl (lv_at hl 1 rfl) ?_
      refine gw_geti (k := 15) (ref := R_Equations) C hW o_t0 (by decide) rfl gi_Equations rfl (by decide) rfl rfl gk_249 gd_Equations_takeAll_76 ?_
      refine lv_aload_n hx hb gd_Equations_takeAll_79 rfl (lv_at hl 1 rfl) ?_
      refine gw_geti (k := 16) (ref := R_Equations) C hW o_t0 (by decide) rfl gi_Equations rfl (by decide) rfl rfl gk_273 gd_Equations_takeAll_80 ?_
      obtain ⟨a14, u12, d13, h⟩ := gf_cl_ok h
      refine gw_callSi (As := [.int (u6.1 t0 15), .int (u6.1 t0 16)]) (rest := [.ref (hs q10)]) C hW (fun _ h => Or.inr h) hl.1 gm_Equations_at (gc_Equations_at l F  d13 _) gk_235 gk_236 rfl rfl ⟨Nat.le_of_ble_eq_true rfl, Nat.le_of_ble_eq_true rfl⟩ ⟨Nat.zero_le _, Nat.zero_le _⟩ rfl rfl (Nat.le_of_ble_eq_true rfl) gd_Equations_takeAll_83 (fun H locs hW => ?_)
      obtain ⟨g15, h⟩ := gf_if_ok h
      refine gw_iald C hW o_q10 g15 gd_Equations_takeAll_86 ?_
      refine lv_if_eq (tgt := 92) hx hb gd_Equations_takeAll_87 (by decide) (fun c16 => ?_) (fun c16 => ?_)
      · have h := gf_t c16 h
        exact gx_Equations_takeAll_b92 F C hr hk k_39 u12 t0 t1 x2 o_t0 o_t1 hW (lv_sub hl [1, 2, 3] rfl) h
      · have h := gf_f c16 h
        refine lv_iload_n hx hb gd_Equations_takeAll_90 rfl (lv_at hl 3 rfl) ?_
        obtain rfl := Option.some.inj h
        exact gw_iret C hW hr hk gd_Equations_takeAll_91
    · have h := gf_f c9 h
      refine lv_aload_n hx hb gd_Equations_takeAll_63 rfl (lv_at hl 1 rfl) ?_
      refine lv_iload_n hx hb gd_Equations_takeAll_64 rfl (lv_at hl 0 rfl) ?_
      obtain ⟨u17, d18, h⟩ := gf_bd_ok h
      refine gw_callVv (K := R_Equations) (As := [.int a8]) (rest := []) C hW (fun _ h => Or.inr h) hl.1 gm_Equations_giveColumn (gc_Equations_giveColumn l F o_t0 d18 _) gk_291 gk_292 gk_293 o_t0 (by decide) rfl rfl rfl ⟨Nat.le_of_ble_eq_true rfl, Nat.le_of_ble_eq_true rfl⟩ ⟨Nat.zero_le _, Nat.zero_le _⟩ rfl rfl (Nat.le_of_ble_eq_true rfl) gd_Equations_takeAll_65 (fun H locs hW => ?_)
      refine lv_goto (tgt := 92) hx hb gd_Equations_takeAll_68 (by decide) ?_
      exact gx_Equations_takeAll_b92 F C hr hk k_39 u17 t0 t1 x2 o_t0 o_t1 hW (lv_sub hl [1, 2, 3] rfl) h
set_option maxHeartbeats 4000000 in
set_option maxRecDepth 20000 in
theorem gx_Equations_takeAll_L39 {p : Program} {l : Launch} {e : Env} {s : State} {m : MethodId} {args : Array Value} {below : List Frame} {meth : Method} {c : Code} {D : va_G} {cA : Nat → ClassId} {hs : Nat → Nat} {z : gw_Sh} (F : Nat) {r0 : (Int32 × gw_St)} (C : gw_Cx p s m args c gb_Equations_takeAll 4 R_Equations D cA) (hr : meth.sig.returnType = (some .int)) (hk : meth.locks = false) : ∀ (n : Nat), ∀ (u : gw_St) (t0 : Nat) (t1 : Nat) (x2 : Int32) (H : Heap) (locs : List Loc) (ls : Array Slot), gw_ok z t0 4 → gw_ok z t1 2 → gw_Wx D cA hs z s u H locs → lv_has ls 4 [(0, .ref (hs t0)), (1, .ref (hs t1)), (2, .int x2)] → gf_Equations_takeAll_L39 F z  n u t0 t1 x2 = some r0 → gw_Gi p l e gr_Equations_takeAll s m args below meth c D cA hs z r0 H locs ls 39 [] := by
  intro n
  induction n with
  | zero =>
    intro u t0 t1 x2 H locs ls o_t0 o_t1 hW hl h
    cases h
  | succ n ih =>
    intro u t0 t1 x2 H locs ls o_t0 o_t1 hW hl h
    exact gx_Equations_takeAll_S39 F C hr hk  ih u t0 t1 x2 o_t0 o_t1 hW hl h

set_option maxHeartbeats 4000000 in
set_option maxRecDepth 20000 in
theorem gx_Equations_takeAll_b0 {p : Program} {l : Launch} {e : Env} {s : State} {m : MethodId} {args : Array Value} {below : List Frame} {meth : Method} {c : Code} {D : va_G} {cA : Nat → ClassId} {hs : Nat → Nat} {z : gw_Sh} (F : Nat) {r0 : (Int32 × gw_St)} (C : gw_Cx p s m args c gb_Equations_takeAll 4 R_Equations D cA) (hr : meth.sig.returnType = (some .int)) (hk : meth.locks = false) (u : gw_St) (t0 : Nat) (t1 : Nat) (o_t0 : gw_ok z t0 4) (o_t1 : gw_ok z t1 2) {H : Heap} {locs : List Loc} {ls : Array Slot} (hW : gw_Wx D cA hs z s u H locs) (hl : lv_has ls 4 [(0, .ref (hs t0)), (1, .ref (hs t1))]) (h : gf_Equations_takeAll_b0 F z   u t0 t1 = some r0) : gw_Gi p l e gr_Equations_takeAll s m args below meth c D cA hs z r0 H locs ls 0 [] := by
  obtain ⟨hx, hb, hml, hown, hts, hK⟩ := id C
  unfold gf_Equations_takeAll_b0 at h
  refine lv_aload_n hx hb gd_Equations_takeAll_0 rfl (lv_at hl 0 rfl) ?_
  refine lv_aload_n hx hb gd_Equations_takeAll_1 rfl (lv_at hl 1 rfl) ?_
  refine gw_geti (k := 2) (ref := R_Works) C hW o_t1 (by decide) rfl gi_Works rfl (by decide) rfl rfl gk_294 gd_Equations_takeAll_2 ?_
  refine gw_puti (k := 14) (ref := R_Equations) (fty := .int) C hW o_t0 (by decide) rfl gi_Equations rfl (by decide) rfl rfl gk_269 tf_Equations tf_Equations_ok nm_Equations rfl rfl rfl rfl gd_Equations_takeAll_5 (fun u19 H locs e20 hW => ?_)
  have h := gf_nm_ok e20 h
  refine lv_aload_n hx hb gd_Equations_takeAll_8 rfl (lv_at hl 0 rfl) ?_
  refine lv_aload_n hx hb gd_Equations_takeAll_9 rfl (lv_at hl 1 rfl) ?_
  refine gw_geti (k := 4) (ref := R_Works) C hW o_t1 (by decide) rfl gi_Works rfl (by decide) rfl rfl gk_295 gd_Equations_takeAll_10 ?_
  refine gw_puti (k := 16) (ref := R_Equations) (fty := .int) C hW o_t0 (by decide) rfl gi_Equations rfl (by decide) rfl rfl gk_273 tf_Equations tf_Equations_ok nm_Equations rfl rfl rfl rfl gd_Equations_takeAll_13 (fun u21 H locs e22 hW => ?_)
  have h := gf_nm_ok e22 h
  refine lv_aload_n hx hb gd_Equations_takeAll_16 rfl (lv_at hl 0 rfl) ?_
  refine lv_iconst (v := 0) hx hb gd_Equations_takeAll_17 (by decide) ?_
  refine gw_puti (k := 15) (ref := R_Equations) (fty := .int) C hW o_t0 (by decide) rfl gi_Equations rfl (by decide) rfl rfl gk_249 tf_Equations tf_Equations_ok nm_Equations rfl rfl rfl rfl gd_Equations_takeAll_18 (fun u23 H locs e24 hW => ?_)
  have h := gf_nm_ok e24 h
  refine lv_aload_n hx hb gd_Equations_takeAll_21 rfl (lv_at hl 0 rfl) ?_
  obtain ⟨q25, e26, h⟩ := gf_nn_ok h
  refine gw_getr (k := 11) (ty := 8) (ref := R_Equations) C hW o_t0 (by decide) rfl gi_Equations rfl (by decide) rfl rfl gk_267 gd_Equations_takeAll_22 e26 ?_
  have o_q25 := hW.ref (d := 8) o_t0 e26 rfl
  refine lv_lconst (v := 1) hx hb gd_Equations_takeAll_25 (by decide) ?_
  obtain ⟨u27, d28, h⟩ := gf_bd_ok h
  refine gw_callVv (K := R_Whole) (As := [.long (1 : Int64)]) (rest := []) C hW (fun _ h => Or.inr h) hl.1 gm_Whole_setLong (gc_Whole_setLong l F o_q25 d28 _) gk_259 gk_71 gk_72 o_q25 (by decide) rfl rfl rfl ⟨Nat.le_of_ble_eq_true rfl, Nat.le_of_ble_eq_true rfl⟩ ⟨Nat.zero_le _, Nat.zero_le _⟩ rfl rfl (Nat.le_of_ble_eq_true rfl) gd_Equations_takeAll_26 (fun H locs hW => ?_)
  refine lv_aload_n hx hb gd_Equations_takeAll_29 rfl (lv_at hl 0 rfl) ?_
  obtain ⟨q29, e30, h⟩ := gf_nn_ok h
  refine gw_getr (k := 3) (ty := 10) (ref := R_Equations) C hW o_t0 (by decide) rfl gi_Equations rfl (by decide) rfl rfl gk_253 gd_Equations_takeAll_30 e30 ?_
  have o_q29 := hW.ref (d := 10) o_t0 e30 rfl
  refine lv_iconst (v := (-1)) hx hb gd_Equations_takeAll_33 (by decide) ?_
  obtain ⟨u31, d32, h⟩ := gf_bd_ok h
  refine gw_callSv (As := [.ref (hs q29), .int (-1 : Int32)]) (rest := []) C hW (fun _ h => Or.inr h) hl.1 gm_Arrays_fill1 (gc_Arrays_fill1 l F o_q29 d32 _) gk_296 gk_151 rfl rfl ⟨Nat.le_of_ble_eq_true rfl, Nat.le_of_ble_eq_true rfl⟩ ⟨Nat.zero_le _, Nat.zero_le _⟩ rfl rfl (Nat.le_of_ble_eq_true rfl) gd_Equations_takeAll_34 (fun H locs hW => ?_)
  refine lv_iconst (v := 0) hx hb gd_Equations_takeAll_37 (by decide) ?_
  refine lv_istore_n (lv' := [(2, .int 0), (0, .ref (hs t0)), (1, .ref (hs t1))]) hx hb gd_Equations_takeAll_38 rfl hl (by decide) rfl (fun ls hl => ?_)
  exact gx_Equations_takeAll_L39 F C hr hk  F u31 t0 t1 0 _ _ _ o_t0 o_t1 hW (lv_sub hl [1, 2, 0] rfl) h

set_option maxRecDepth 20000 in
theorem gc_Equations_takeAll (l : Launch) {D : va_G} {cA : Nat → ClassId} {hs : Nat → Nat} {z : gw_Sh} (F : Nat) {u : gw_St} {r0 : (Int32 × gw_St)} {t0 : Nat} {t1 : Nat} (o_t0 : gw_ok z t0 4) (o_t1 : gw_ok z t1 2) (h : gf_Equations_takeAll F z u t0 t1 = some r0) (sz : Nat) : gw_Mi l gy_Equations_takeAll gb_Equations_takeAll 4 (some .int) gr_Equations_takeAll [.ref (hs t0), .ref (hs t1)] D cA hs z u sz r0 := by
  refine gw_enter (by decide) (Nat.le_of_ble_eq_true rfl) ?_
  intro p e s m below meth c ls hsz C hW hr hk _ hl
  subst hsz
  exact gx_Equations_takeAll_b0 F C hr hk u t0 t1 o_t0 o_t1 hW (lv_sub hl [0, 1] rfl) h
-- GearDesk$Equations.isDetermined(I)Z
def gy_Equations_isDetermined : MethodName := ⟨R_Equations, "isDetermined", "(I)Z"⟩
abbrev gb_Equations_isDetermined : ByteArray := prog_3_method_10_code
theorem gk_298 : Cond.code gy_Equations_isDetermined gb_Equations_isDetermined 3 (some .boolean) ∈ gt_T := gt_m5 (List.mem_of_getElem? (i := 148) rfl) rfl
def gr_Equations_isDetermined : Room := gw_rm 2 85
theorem gm_Equations_isDetermined : gw_Mth gy_Equations_isDetermined gb_Equations_isDetermined 3 (some .boolean) 1 := ⟨gk_298, gk_226, ⟨by decide +kernel, by decide +kernel⟩, by decide +kernel⟩
theorem gd_Equations_isDetermined_0 : decode gb_Equations_isDetermined 0 = .ok (.iload_n 1, 1) := by decide +kernel
theorem gd_Equations_isDetermined_1 : decode gb_Equations_isDetermined 1 = .ok (.aload_n 0, 1) := by decide +kernel
theorem gd_Equations_isDetermined_2 : decode gb_Equations_isDetermined 2 = .ok (.getfield 77, 3) := by decide +kernel
theorem gd_Equations_isDetermined_5 : decode gb_Equations_isDetermined 5 = .ok (.if_icmp .ne 5, 3) := by decide +kernel
theorem gd_Equations_isDetermined_8 : decode gb_Equations_isDetermined 8 = .ok (.iconst 1, 1) := by decide +kernel
theorem gd_Equations_isDetermined_9 : decode gb_Equations_isDetermined 9 = .ok (.ireturn, 1) := by decide +kernel
theorem gd_Equations_isDetermined_10 : decode gb_Equations_isDetermined 10 = .ok (.aload_n 0, 1) := by decide +kernel
theorem gd_Equations_isDetermined_11 : decode gb_Equations_isDetermined 11 = .ok (.getfield 23, 3) := by decide +kernel
theorem gd_Equations_isDetermined_14 : decode gb_Equations_isDetermined 14 = .ok (.iload_n 1, 1) := by decide +kernel
theorem gd_Equations_isDetermined_15 : decode gb_Equations_isDetermined 15 = .ok (.iaload, 1) := by decide +kernel
theorem gd_Equations_isDetermined_16 : decode gb_Equations_isDetermined 16 = .ok (.iconst (-1), 1) := by decide +kernel
theorem gd_Equations_isDetermined_17 : decode gb_Equations_isDetermined 17 = .ok (.if_icmp .ne 5, 3) := by decide +kernel
theorem gd_Equations_isDetermined_20 : decode gb_Equations_isDetermined 20 = .ok (.iconst 0, 1) := by decide +kernel
theorem gd_Equations_isDetermined_21 : decode gb_Equations_isDetermined 21 = .ok (.ireturn, 1) := by decide +kernel
theorem gd_Equations_isDetermined_22 : decode gb_Equations_isDetermined 22 = .ok (.iconst 0, 1) := by decide +kernel
theorem gd_Equations_isDetermined_23 : decode gb_Equations_isDetermined 23 = .ok (.istore_n 2, 1) := by decide +kernel
theorem gd_Equations_isDetermined_24 : decode gb_Equations_isDetermined 24 = .ok (.iload_n 2, 1) := by decide +kernel
theorem gd_Equations_isDetermined_25 : decode gb_Equations_isDetermined 25 = .ok (.aload_n 0, 1) := by decide +kernel
theorem gd_Equations_isDetermined_26 : decode gb_Equations_isDetermined 26 = .ok (.getfield 71, 3) := by decide +kernel
theorem gd_Equations_isDetermined_29 : decode gb_Equations_isDetermined 29 = .ok (.if_icmp .ge 47, 3) := by decide +kernel
theorem gd_Equations_isDetermined_32 : decode gb_Equations_isDetermined 32 = .ok (.aload_n 0, 1) := by decide +kernel
theorem gd_Equations_isDetermined_33 : decode gb_Equations_isDetermined 33 = .ok (.getfield 23, 3) := by decide +kernel
theorem gd_Equations_isDetermined_36 : decode gb_Equations_isDetermined 36 = .ok (.iload_n 2, 1) := by decide +kernel
theorem gd_Equations_isDetermined_37 : decode gb_Equations_isDetermined 37 = .ok (.iaload, 1) := by decide +kernel
theorem gd_Equations_isDetermined_38 : decode gb_Equations_isDetermined 38 = .ok (.iconst (-1), 1) := by decide +kernel
theorem gd_Equations_isDetermined_39 : decode gb_Equations_isDetermined 39 = .ok (.if_icmp .ne 31, 3) := by decide +kernel
theorem gd_Equations_isDetermined_42 : decode gb_Equations_isDetermined 42 = .ok (.iload_n 2, 1) := by decide +kernel
theorem gd_Equations_isDetermined_43 : decode gb_Equations_isDetermined 43 = .ok (.aload_n 0, 1) := by decide +kernel
theorem gd_Equations_isDetermined_44 : decode gb_Equations_isDetermined 44 = .ok (.getfield 77, 3) := by decide +kernel
theorem gd_Equations_isDetermined_47 : decode gb_Equations_isDetermined 47 = .ok (.if_icmp .eq 23, 3) := by decide +kernel
theorem gd_Equations_isDetermined_50 : decode gb_Equations_isDetermined 50 = .ok (.aload_n 0, 1) := by decide +kernel
theorem gd_Equations_isDetermined_51 : decode gb_Equations_isDetermined 51 = .ok (.getfield 20, 3) := by decide +kernel
theorem gd_Equations_isDetermined_54 : decode gb_Equations_isDetermined 54 = .ok (.aload_n 0, 1) := by decide +kernel
theorem gd_Equations_isDetermined_55 : decode gb_Equations_isDetermined 55 = .ok (.getfield 23, 3) := by decide +kernel
theorem gd_Equations_isDetermined_58 : decode gb_Equations_isDetermined 58 = .ok (.iload_n 1, 1) := by decide +kernel
theorem gd_Equations_isDetermined_59 : decode gb_Equations_isDetermined 59 = .ok (.iaload, 1) := by decide +kernel
theorem gd_Equations_isDetermined_60 : decode gb_Equations_isDetermined 60 = .ok (.iload_n 2, 1) := by decide +kernel
theorem gd_Equations_isDetermined_61 : decode gb_Equations_isDetermined 61 = .ok (.invokestatic 105, 3) := by decide +kernel
theorem gd_Equations_isDetermined_64 : decode gb_Equations_isDetermined 64 = .ok (.iaload, 1) := by decide +kernel
theorem gd_Equations_isDetermined_65 : decode gb_Equations_isDetermined 65 = .ok (.ifCond .eq 5, 3) := by decide +kernel
theorem gd_Equations_isDetermined_68 : decode gb_Equations_isDetermined 68 = .ok (.iconst 0, 1) := by decide +kernel
theorem gd_Equations_isDetermined_69 : decode gb_Equations_isDetermined 69 = .ok (.ireturn, 1) := by decide +kernel
theorem gd_Equations_isDetermined_70 : decode gb_Equations_isDetermined 70 = .ok (.iinc 2 1, 3) := by decide +kernel
theorem gd_Equations_isDetermined_73 : decode gb_Equations_isDetermined 73 = .ok (.goto (-49), 3) := by decide +kernel
theorem gd_Equations_isDetermined_76 : decode gb_Equations_isDetermined 76 = .ok (.iconst 1, 1) := by decide +kernel
theorem gd_Equations_isDetermined_77 : decode gb_Equations_isDetermined 77 = .ok (.ireturn, 1) := by decide +kernel
def gf_Equations_isDetermined_b70 (F : Nat) (z : gw_Sh) (rc_24 : gw_St → Nat → Int32 → Int32 → Option (Int32 × gw_St)) (u : gw_St) (t0 : Nat) (x1 : Int32) (x2 : Int32) : Option (Int32 × gw_St) :=
  gf_nm (x2 + 1) fun a1 => rc_24 u t0 x1 a1
def gf_Equations_isDetermined_S24 (F : Nat) (z : gw_Sh)  (rc_24 : gw_St → Nat → Int32 → Int32 → Option (Int32 × gw_St)) (u : gw_St) (t0 : Nat) (x1 : Int32) (x2 : Int32) : Option (Int32 × gw_St) :=
  if (u.1 t0 14) ≤ x2 then (if ¬ ((1 : Int32) &&& 1 = (1 : Int32)) then none else some ((1 : Int32), u)) else (gf_nn (u.2.2 t0 3) fun q5 => if (x2 < 0 ∨ z.2.2 q5 ≤ (x2).toNatClampNeg) then none else if (u.1 q5 (x2).toNatClampNeg) = (-1 : Int32) then (if x2 = (u.1 t0 16) then (gf_Equations_isDetermined_b70 F z rc_24 u t0 x1 x2) else (gf_nn (u.2.2 t0 2) fun q10 => gf_nn (u.2.2 t0 3) fun q12 => if (x1 < 0 ∨ z.2.2 q12 ≤ (x1).toNatClampNeg) then none else gf_cl (gf_Equations_at F z u (u.1 q12 (x1).toNatClampNeg) x2) fun a17 u15 => if (a17 < 0 ∨ z.2.2 q10 ≤ (a17).toNatClampNeg) then none else if (u15.1 q10 (a17).toNatClampNeg) = 0 then (gf_Equations_isDetermined_b70 F z rc_24 u15 t0 x1 x2) else (if ¬ ((0 : Int32) &&& 1 = (0 : Int32)) then none else some ((0 : Int32), u15)))) else (gf_Equations_isDetermined_b70 F z rc_24 u t0 x1 x2))
def gf_Equations_isDetermined_L24 (F : Nat) (z : gw_Sh)  : Nat → gw_St → Nat → Int32 → Int32 → Option (Int32 × gw_St)
  | 0 => fun _ _ _ _ => none
  | n + 1 => fun u t0 x1 x2 => gf_Equations_isDetermined_S24 F z  (gf_Equations_isDetermined_L24 F z  n) u t0 x1 x2
def gf_Equations_isDetermined_b0 (F : Nat) (z : gw_Sh)  (u : gw_St) (t0 : Nat) (x1 : Int32) : Option (Int32 × gw_St) :=
  if x1 = (u.1 t0 16) then (if ¬ ((1 : Int32) &&& 1 = (1 : Int32)) then none else some ((1 : Int32), u)) else (gf_nn (u.2.2 t0 3) fun q22 => if (x1 < 0 ∨ z.2.2 q22 ≤ (x1).toNatClampNeg) then none else if (u.1 q22 (x1).toNatClampNeg) = (-1 : Int32) then (if ¬ ((0 : Int32) &&& 1 = (0 : Int32)) then none else some ((0 : Int32), u)) else (gf_Equations_isDetermined_L24 F z  F u t0 x1 0))
def gf_Equations_isDetermined (F : Nat) (z : gw_Sh) (u : gw_St) (t0 : Nat) (x1 : Int32) : Option (Int32 × gw_St) := gf_Equations_isDetermined_b0 F z  u t0 x1
set_option maxHeartbeats 4000000 in
set_option maxRecDepth 20000 in
theorem gx_Equations_isDetermined_b70 {p : Program} {l : Launch} {e : Env} {s : State} {m : MethodId} {args : Array Value} {below : List Frame} {meth : Method} {c : Code} {D : va_G} {cA : Nat → ClassId} {hs : Nat → Nat} {z : gw_Sh} (F : Nat) {r0 : (Int32 × gw_St)} (C : gw_Cx p s m args c gb_Equations_isDetermined 3 R_Equations D cA) (hr : meth.sig.returnType = (some .boolean)) (hk : meth.locks = false) {rc_24 : gw_St → Nat → Int32 → Int32 → Option (Int32 × gw_St)} (k_24 : ∀ (u : gw_St) (t0 : Nat) (x1 : Int32) (x2 : Int32) (H : Heap) (locs : List Loc) (ls : Array Slot), gw_ok z t0 4 → gw_Wx D cA hs z s u H locs → lv_has ls 3 [(0, .ref (hs t0)), (1, .int x1), (2, .int x2)] → rc_24 u t0 x1 x2 = some r0 → gw_Gi p l e gr_Equations_isDetermined s m args below meth c D cA hs z r0 H locs ls 24 []) (u : gw_St) (t0 : Nat) (x1 : Int32) (x2 : Int32) (o_t0 : gw_ok z t0 4) {H : Heap} {locs : List Loc} {ls : Array Slot} (hW : gw_Wx D cA hs z s u H locs) (hl : lv_has ls 3 [(0, .ref (hs t0)), (1, .int x1), (2, .int x2)]) (h : gf_Equations_isDetermined_b70 F z rc_24  u t0 x1 x2 = some r0) : gw_Gi p l e gr_Equations_isDetermined s m args below meth c D cA hs z r0 H locs ls 70 [] := by
  obtain ⟨hx, hb, hml, hown, hts, hK⟩ := id C
  unfold gf_Equations_isDetermined_b70 at h
  obtain ⟨a1, e2⟩ : ∃ y : Int32, y = x2 + 1 := ⟨_, rfl⟩
  have h := gf_nm_ok e2 h
  refine lv_iinc (v := a1) (lv' := [(2, .int a1), (0, .ref (hs t0)), (1, .int x1)]) hx hb gd_Equations_isDetermined_70 hl (k := 2) rfl (by rw [e2]; rfl) (by decide) rfl (fun ls hl => ?_)
  refine lv_goto (tgt := 24) hx hb gd_Equations_isDetermined_73 (by decide) ?_
  exact k_24 u t0 x1 a1 _ _ _ o_t0 hW (lv_sub hl [1, 2, 0] rfl) h

set_option maxHeartbeats 4000000 in
set_option maxRecDepth 20000 in
theorem gx_Equations_isDetermined_S24 {p : Program} {l : Launch} {e : Env} {s : State} {m : MethodId} {args : Array Value} {below : List Frame} {meth : Method} {c : Code} {D : va_G} {cA : Nat → ClassId} {hs : Nat → Nat} {z : gw_Sh} (F : Nat) {r0 : (Int32 × gw_St)} (C : gw_Cx p s m args c gb_Equations_isDetermined 3 R_Equations D cA) (hr : meth.sig.returnType = (some .boolean)) (hk : meth.locks = false) {rc_24 : gw_St → Nat → Int32 → Int32 → Option (Int32 × gw_St)} (k_24 : ∀ (u : gw_St) (t0 : Nat) (x1 : Int32) (x2 : Int32) (H : Heap) (locs : List Loc) (ls : Array Slot), gw_ok z t0 4 → gw_Wx D cA hs z s u H locs → lv_has ls 3 [(0, .ref (hs t0)), (1, .int x1), (2, .int x2)] → rc_24 u t0 x1 x2 = some r0 → gw_Gi p l e gr_Equations_isDetermined s m args below meth c D cA hs z r0 H locs ls 24 []) (u : gw_St) (t0 : Nat) (x1 : Int32) (x2 : Int32) (o_t0 : gw_ok z t0 4) {H : Heap} {locs : List Loc} {ls : Array Slot} (hW : gw_Wx D cA hs z s u H locs) (hl : lv_has ls 3 [(0, .ref (hs t0)), (1, .int x1), (2, .int x2)]) (h : gf_Equations_isDetermined_S24 F z  rc_24 u t0 x1 x2 = some r0) : gw_Gi p l e gr_Equations_isDetermined s m args below meth c D cA hs z r0 H locs ls 24 [] := by
  obtain ⟨hx, hb, hml, hown, hts, hK⟩ := id C
  unfold gf_Equations_isDetermined_S24 at h
  refine lv_iload_n hx hb gd_Equations_isDetermined_24 rfl (lv_at hl 2 rfl) ?_
  refine lv_aload_n hx hb gd_Equations_isDetermined_25 rfl (lv_at hl 0 rfl) ?_
  refine gw_geti (k := 14) (ref := R_Equations) C hW o_t0 (by decide) rfl gi_Equations rfl (by decide) rfl rfl gk_269 gd_Equations_isDetermined_26 ?_
  refine lv_icmp_ge (tgt := 76) hx hb gd_Equations_isDetermined_29 (by decide) (fun c3 => ?_) (fun c3 => ?_)
  · have h := gf_t c3 h
    refine lv_iconst (v := 1) hx hb gd_Equations_isDetermined_76 (by decide) ?_
    obtain ⟨g4, h⟩ := gf_if_ok h
    obtain rfl := Option.some.inj h
    exact gw_zret C hW hr (Decidable.not_not.mp g4) hk gd_Equations_isDetermined_77
  · have h := gf_f c3 h
    refine lv_aload_n hx hb gd_Equations_isDetermined_32 rfl (lv_at hl 0 rfl) ?_
    obtain ⟨q5, e6, h⟩ := gf_nn_ok h
    refine gw_getr (k := 3) (ty := 10) (ref := R_Equations) C hW o_t0 (by decide) rfl gi_Equations rfl (by decide) rfl rfl gk_253 gd_Equations_isDetermined_33 e6 ?_
    have o_q5 := hW.ref (d := 10) o_t0 e6 rfl
    refine lv_iload_n hx hb gd_Equations_isDetermined_36 rfl (lv_at hl 2 rfl) ?_
    obtain ⟨g7, h⟩ := gf_if_ok h
    refine gw_iald C hW o_q5 g7 gd_Equations_isDetermined_37 ?_
    refine lv_iconst (v := (-1)) hx hb gd_Equations_isDetermined_38 (by decide) ?_
    refine lv_icmp_ne (tgt := 70) hx hb gd_Equations_isDetermined_39 (by decide) (fun c8 => ?_) (fun c8 => ?_)
    · have h := gf_f c8 h
      exact gx_Equations_isDetermined_b70 F C hr hk k_24 u t0 x1 x2 o_t0 hW (lv_sub hl [0, 1, 2] rfl) h
    · have h := gf_t c8 h
      refine lv_iload_n hx hb gd_Equations_isDetermined_42 rfl (lv_at hl 2 rfl) ?_
      refine lv_aload_n hx hb gd_Equations_isDetermined_43 rfl (lv_at hl 0 rfl) ?_
      refine gw_geti (k := 16) (ref := R_Equations) C hW o_t0 (by decide) rfl gi_Equations rfl (by decide) rfl rfl gk_273 gd_Equations_isDetermined_44 ?_
      refine lv_icmp_eq (tgt := 70) hx hb gd_Equations_isDetermined_47 (by decide) (fun c9 => ?_) (fun c9 => ?_)
      · have h := gf_t c9 h
        exact gx_Equations_isDetermined_b70 F C hr hk k_24 u t0 x1 x2 o_t0 hW (lv_sub hl [0, 1, 2] rfl) h
      · have h := gf_f c9 h
        refine lv_aload_n hx hb gd_Equations_isDetermined_50 rfl (lv_at hl 0 rfl) ?_
        obtain ⟨q10, e11, h⟩ := gf_nn_ok h
        refine gw_getr (k := 2) (ty := 10) (ref := R_Equations) C hW o_t0 (by decide) rfl gi_Equations rfl (by decide) rfl rfl gk_237 gd_Equations_isDetermined_51 e11 ?_
        have o_q10 := hW.ref (d := 10) o_t0 e11 rfl
        refine lv_aload_n hx hb gd_Equations_isDetermined_54 rfl (lv_at hl 0 rfl) ?_
        obtain ⟨q12, e13, h⟩ := gf_nn_ok h
        refine gw_getr (k := 3) (ty := 10) (ref := R_Equations) C hW o_t0 (by decide) rfl gi_Equations rfl (by decide) rfl rfl gk_253 gd_Equations_isDetermined_55 e13 ?_
        have o_q12 := hW.ref (d := 10) o_t0 e13 rfl
        refine lv_iload_n hx hb gd_Equations_isDetermined_58 rfl (lv_at hl 1 rfl) ?_
        obtain ⟨g14, h⟩ := gf_if_ok h
        refine gw_iald C hW o_q12 g14 gd_Equations_isDetermined_59 ?_
        refine lv_iload_n hx hb gd_Equations_isDetermined_60 rfl (lv_at hl 2 rfl) ?_
        obtain ⟨a17, u15, d16, h⟩ := gf_cl_ok h
        refine gw_callSi (As := [.int (u.1 q12 (x1).toNatClampNeg), .int x2]) (rest := [.ref (hs q10)]) C hW (fun _ h => Or.inr h) hl.1 gm_Equations_at (gc_Equations_at l F  d16 _) gk_235 gk_236 rfl rfl ⟨Nat.le_of_ble_eq_true rfl, Nat.le_of_ble_eq_true rfl⟩ ⟨Nat.zero_le _, Nat.zero_le _⟩ rfl rfl (Nat.le_of_ble_eq_true rfl) gd_Equations_isDetermined_61 (fun H locs hW => ?_)
        obtain ⟨g18, h⟩ := gf_if_ok h
        refine gw_iald C hW o_q10 g18 gd_Equations_isDetermined_64 ?_
        refine lv_if_eq (tgt := 70) hx hb gd_Equations_isDetermined_65 (by decide) (fun c19 => ?_) (fun c19 => ?_)
        · have h := gf_t c19 h
          exact gx_Equations_isDetermined_b70 F C hr hk k_24 u15 t0 x1 x2 o_t0 hW (lv_sub hl [0, 1, 2] rfl) h
        · have h := gf_f c19 h
          refine lv_iconst (v := 0) hx hb gd_Equations_isDetermined_68 (by decide) ?_
          obtain ⟨g20, h⟩ := gf_if_ok h
          obtain rfl := Option.some.inj h
          exact gw_zret C hW hr (Decidable.not_not.mp g20) hk gd_Equations_isDetermined_69
set_option maxHeartbeats 4000000 in
set_option maxRecDepth 20000 in
theorem gx_Equations_isDetermined_L24 {p : Program} {l : Launch} {e : Env} {s : State} {m : MethodId} {args : Array Value} {below : List Frame} {meth : Method} {c : Code} {D : va_G} {cA : Nat → ClassId} {hs : Nat → Nat} {z : gw_Sh} (F : Nat) {r0 : (Int32 × gw_St)} (C : gw_Cx p s m args c gb_Equations_isDetermined 3 R_Equations D cA) (hr : meth.sig.returnType = (some .boolean)) (hk : meth.locks = false) : ∀ (n : Nat), ∀ (u : gw_St) (t0 : Nat) (x1 : Int32) (x2 : Int32) (H : Heap) (locs : List Loc) (ls : Array Slot), gw_ok z t0 4 → gw_Wx D cA hs z s u H locs → lv_has ls 3 [(0, .ref (hs t0)), (1, .int x1), (2, .int x2)] → gf_Equations_isDetermined_L24 F z  n u t0 x1 x2 = some r0 → gw_Gi p l e gr_Equations_isDetermined s m args below meth c D cA hs z r0 H locs ls 24 [] := by
  intro n
  induction n with
  | zero =>
    intro u t0 x1 x2 H locs ls o_t0 hW hl h
    cases h
  | succ n ih =>
    intro u t0 x1 x2 H locs ls o_t0 hW hl h
    exact gx_Equations_isDetermined_S24 F C hr hk  ih u t0 x1 x2 o_t0 hW hl h

set_option maxHeartbeats 4000000 in
set_option maxRecDepth 20000 in
theorem gx_Equations_isDetermined_b0 {p : Program} {l : Launch} {e : Env} {s : State} {m : MethodId} {args : Array Value} {below : List Frame} {meth : Method} {c : Code} {D : va_G} {cA : Nat → ClassId} {hs : Nat → Nat} {z : gw_Sh} (F : Nat) {r0 : (Int32 × gw_St)} (C : gw_Cx p s m args c gb_Equations_isDetermined 3 R_Equations D cA) (hr : meth.sig.returnType = (some .boolean)) (hk : meth.locks = false) (u : gw_St) (t0 : Nat) (x1 : Int32) (o_t0 : gw_ok z t0 4) {H : Heap} {locs : List Loc} {ls : Array Slot} (hW : gw_Wx D cA hs z s u H locs) (hl : lv_has ls 3 [(0, .ref (hs t0)), (1, .int x1)]) (h : gf_Equations_isDetermined_b0 F z   u t0 x1 = some r0) : gw_Gi p l e gr_Equations_isDetermined s m args below meth c D cA hs z r0 H locs ls 0 [] := by
  obtain ⟨hx, hb, hml, hown, hts, hK⟩ := id C
  unfold gf_Equations_isDetermined_b0 at h
  refine lv_iload_n hx hb gd_Equations_isDetermined_0 rfl (lv_at hl 1 rfl) ?_
  refine lv_aload_n hx hb gd_Equations_isDetermined_1 rfl (lv_at hl 0 rfl) ?_
  refine gw_geti (k := 16) (ref := R_Equations) C hW o_t0 (by decide) rfl gi_Equations rfl (by decide) rfl rfl gk_273 gd_Equations_isDetermined_2 ?_
  refine lv_icmp_ne (tgt := 10) hx hb gd_Equations_isDetermined_5 (by decide) (fun c21 => ?_) (fun c21 => ?_)
  · have h := gf_f c21 h
    refine lv_aload_n hx hb gd_Equations_isDetermined_10 rfl (lv_at hl 0 rfl) ?_
    obtain ⟨q22, e23, h⟩ := gf_nn_ok h
    refine gw_getr (k := 3) (ty := 10) (ref := R_Equations) C hW o_t0 (by decide) rfl gi_Equations rfl (by decide) rfl rfl gk_253 gd_Equations_isDetermined_11 e23 ?_
    have o_q22 := hW.ref (d := 10) o_t0 e23 rfl
    refine lv_iload_n hx hb gd_Equations_isDetermined_14 rfl (lv_at hl 1 rfl) ?_
    obtain ⟨g24, h⟩ := gf_if_ok h
    refine gw_iald C hW o_q22 g24 gd_Equations_isDetermined_15 ?_
    refine lv_iconst (v := (-1)) hx hb gd_Equations_isDetermined_16 (by decide) ?_
    refine lv_icmp_ne (tgt := 22) hx hb gd_Equations_isDetermined_17 (by decide) (fun c25 => ?_) (fun c25 => ?_)
    · have h := gf_f c25 h
      refine lv_iconst (v := 0) hx hb gd_Equations_isDetermined_22 (by decide) ?_
      refine lv_istore_n (lv' := [(2, .int 0), (0, .ref (hs t0)), (1, .int x1)]) hx hb gd_Equations_isDetermined_23 rfl hl (by decide) rfl (fun ls hl => ?_)
      exact gx_Equations_isDetermined_L24 F C hr hk  F u t0 x1 0 _ _ _ o_t0 hW (lv_sub hl [1, 2, 0] rfl) h
    · have h := gf_t c25 h
      refine lv_iconst (v := 0) hx hb gd_Equations_isDetermined_20 (by decide) ?_
      obtain ⟨g26, h⟩ := gf_if_ok h
      obtain rfl := Option.some.inj h
      exact gw_zret C hW hr (Decidable.not_not.mp g26) hk gd_Equations_isDetermined_21
  · have h := gf_t c21 h
    refine lv_iconst (v := 1) hx hb gd_Equations_isDetermined_8 (by decide) ?_
    obtain ⟨g27, h⟩ := gf_if_ok h
    obtain rfl := Option.some.inj h
    exact gw_zret C hW hr (Decidable.not_not.mp g27) hk gd_Equations_isDetermined_9

set_option maxRecDepth 20000 in
theorem gc_Equations_isDetermined (l : Launch) {D : va_G} {cA : Nat → ClassId} {hs : Nat → Nat} {z : gw_Sh} (F : Nat) {u : gw_St} {r0 : (Int32 × gw_St)} {t0 : Nat} {x1 : Int32} (o_t0 : gw_ok z t0 4) (h : gf_Equations_isDetermined F z u t0 x1 = some r0) (sz : Nat) : gw_Mi l gy_Equations_isDetermined gb_Equations_isDetermined 3 (some .boolean) gr_Equations_isDetermined [.ref (hs t0), .int x1] D cA hs z u sz r0 := by
  refine gw_enter (by decide) (Nat.le_of_ble_eq_true rfl) ?_
  intro p e s m below meth c ls hsz C hW hr hk _ hl
  subst hsz
  exact gx_Equations_isDetermined_b0 F C hr hk u t0 x1 o_t0 hW (lv_sub hl [0, 1] rfl) h
-- GearDesk$Equations.readSpeed(I)V
theorem gk_299 : Cond.fieldLink R_Equations 55 R_Equations "speed" "LGearDesk$Fraction;" ∈ gt_T := gt_m1 (List.mem_of_getElem? (i := 225) rfl) rfl
theorem gk_300 : Cond.fieldLink R_Equations 179 R_Fraction "top" "LGearDesk$Whole;" ∈ gt_T := gt_m1 (List.mem_of_getElem? (i := 203) rfl) rfl
theorem gk_301 : Cond.fieldLink R_Equations 182 R_Fraction "bottom" "LGearDesk$Whole;" ∈ gt_T := gt_m1 (List.mem_of_getElem? (i := 209) rfl) rfl
theorem gk_302 : Cond.methodLink R_Equations 185 gy_Whole_copyFrom ∈ gt_T := gt_m5 (List.mem_of_getElem? (i := 153) rfl) rfl
theorem gk_303 : Cond.methodLink R_Equations 188 gy_Calculator_reduce ∈ gt_T := gt_m5 (List.mem_of_getElem? (i := 154) rfl) rfl
theorem gk_304 : Cond.instanceMethod gy_Calculator_reduce ∈ gt_T := gt_m5 (List.mem_of_getElem? (i := 155) rfl) rfl
theorem gk_305 : Cond.selects R_Calculator gy_Calculator_reduce gy_Calculator_reduce ∈ gt_T := gt_m5 (List.mem_of_getElem? (i := 156) rfl) rfl
def gy_Equations_readSpeed : MethodName := ⟨R_Equations, "readSpeed", "(I)V"⟩
abbrev gb_Equations_readSpeed : ByteArray := prog_3_method_11_code
theorem gk_306 : Cond.code gy_Equations_readSpeed gb_Equations_readSpeed 2 none ∈ gt_T := gt_m5 (List.mem_of_getElem? (i := 152) rfl) rfl
def gr_Equations_readSpeed : Room := gw_rm 6 184
theorem gm_Equations_readSpeed : gw_Mth gy_Equations_readSpeed gb_Equations_readSpeed 2 none 1 := ⟨gk_306, gk_226, ⟨by decide +kernel, by decide +kernel⟩, by decide +kernel⟩
theorem gd_Equations_readSpeed_0 : decode gb_Equations_readSpeed 0 = .ok (.iload_n 1, 1) := by decide +kernel
theorem gd_Equations_readSpeed_1 : decode gb_Equations_readSpeed 1 = .ok (.aload_n 0, 1) := by decide +kernel
theorem gd_Equations_readSpeed_2 : decode gb_Equations_readSpeed 2 = .ok (.getfield 77, 3) := by decide +kernel
theorem gd_Equations_readSpeed_5 : decode gb_Equations_readSpeed 5 = .ok (.if_icmp .ne 26, 3) := by decide +kernel
theorem gd_Equations_readSpeed_8 : decode gb_Equations_readSpeed 8 = .ok (.aload_n 0, 1) := by decide +kernel
theorem gd_Equations_readSpeed_9 : decode gb_Equations_readSpeed 9 = .ok (.getfield 55, 3) := by decide +kernel
theorem gd_Equations_readSpeed_12 : decode gb_Equations_readSpeed 12 = .ok (.getfield 179, 3) := by decide +kernel
theorem gd_Equations_readSpeed_15 : decode gb_Equations_readSpeed 15 = .ok (.lconst 1, 1) := by decide +kernel
theorem gd_Equations_readSpeed_16 : decode gb_Equations_readSpeed 16 = .ok (.invokevirtual 81, 3) := by decide +kernel
theorem gd_Equations_readSpeed_19 : decode gb_Equations_readSpeed 19 = .ok (.aload_n 0, 1) := by decide +kernel
theorem gd_Equations_readSpeed_20 : decode gb_Equations_readSpeed 20 = .ok (.getfield 55, 3) := by decide +kernel
theorem gd_Equations_readSpeed_23 : decode gb_Equations_readSpeed 23 = .ok (.getfield 182, 3) := by decide +kernel
theorem gd_Equations_readSpeed_26 : decode gb_Equations_readSpeed 26 = .ok (.lconst 1, 1) := by decide +kernel
theorem gd_Equations_readSpeed_27 : decode gb_Equations_readSpeed 27 = .ok (.invokevirtual 81, 3) := by decide +kernel
theorem gd_Equations_readSpeed_30 : decode gb_Equations_readSpeed 30 = .ok (.return_, 1) := by decide +kernel
theorem gd_Equations_readSpeed_31 : decode gb_Equations_readSpeed 31 = .ok (.aload_n 0, 1) := by decide +kernel
theorem gd_Equations_readSpeed_32 : decode gb_Equations_readSpeed 32 = .ok (.aload_n 0, 1) := by decide +kernel
theorem gd_Equations_readSpeed_33 : decode gb_Equations_readSpeed 33 = .ok (.getfield 55, 3) := by decide +kernel
theorem gd_Equations_readSpeed_36 : decode gb_Equations_readSpeed 36 = .ok (.getfield 179, 3) := by decide +kernel
theorem gd_Equations_readSpeed_39 : decode gb_Equations_readSpeed 39 = .ok (.aload_n 0, 1) := by decide +kernel
theorem gd_Equations_readSpeed_40 : decode gb_Equations_readSpeed 40 = .ok (.getfield 23, 3) := by decide +kernel
theorem gd_Equations_readSpeed_43 : decode gb_Equations_readSpeed 43 = .ok (.iload_n 1, 1) := by decide +kernel
theorem gd_Equations_readSpeed_44 : decode gb_Equations_readSpeed 44 = .ok (.iaload, 1) := by decide +kernel
theorem gd_Equations_readSpeed_45 : decode gb_Equations_readSpeed 45 = .ok (.aload_n 0, 1) := by decide +kernel
theorem gd_Equations_readSpeed_46 : decode gb_Equations_readSpeed 46 = .ok (.getfield 77, 3) := by decide +kernel
theorem gd_Equations_readSpeed_49 : decode gb_Equations_readSpeed 49 = .ok (.invokevirtual 160, 3) := by decide +kernel
theorem gd_Equations_readSpeed_52 : decode gb_Equations_readSpeed 52 = .ok (.aload_n 0, 1) := by decide +kernel
theorem gd_Equations_readSpeed_53 : decode gb_Equations_readSpeed 53 = .ok (.getfield 55, 3) := by decide +kernel
theorem gd_Equations_readSpeed_56 : decode gb_Equations_readSpeed 56 = .ok (.getfield 182, 3) := by decide +kernel
theorem gd_Equations_readSpeed_59 : decode gb_Equations_readSpeed 59 = .ok (.aload_n 0, 1) := by decide +kernel
theorem gd_Equations_readSpeed_60 : decode gb_Equations_readSpeed 60 = .ok (.getfield 59, 3) := by decide +kernel
theorem gd_Equations_readSpeed_63 : decode gb_Equations_readSpeed 63 = .ok (.invokevirtual 185, 3) := by decide +kernel
theorem gd_Equations_readSpeed_66 : decode gb_Equations_readSpeed 66 = .ok (.aload_n 0, 1) := by decide +kernel
theorem gd_Equations_readSpeed_67 : decode gb_Equations_readSpeed 67 = .ok (.getfield 55, 3) := by decide +kernel
theorem gd_Equations_readSpeed_70 : decode gb_Equations_readSpeed 70 = .ok (.getfield 179, 3) := by decide +kernel
theorem gd_Equations_readSpeed_73 : decode gb_Equations_readSpeed 73 = .ok (.aload_n 0, 1) := by decide +kernel
theorem gd_Equations_readSpeed_74 : decode gb_Equations_readSpeed 74 = .ok (.getfield 55, 3) := by decide +kernel
theorem gd_Equations_readSpeed_77 : decode gb_Equations_readSpeed 77 = .ok (.getfield 179, 3) := by decide +kernel
theorem gd_Equations_readSpeed_80 : decode gb_Equations_readSpeed 80 = .ok (.getfield 170, 3) := by decide +kernel
theorem gd_Equations_readSpeed_83 : decode gb_Equations_readSpeed 83 = .ok (.ineg, 1) := by decide +kernel
theorem gd_Equations_readSpeed_84 : decode gb_Equations_readSpeed 84 = .ok (.aload_n 0, 1) := by decide +kernel
theorem gd_Equations_readSpeed_85 : decode gb_Equations_readSpeed 85 = .ok (.getfield 59, 3) := by decide +kernel
theorem gd_Equations_readSpeed_88 : decode gb_Equations_readSpeed 88 = .ok (.getfield 170, 3) := by decide +kernel
theorem gd_Equations_readSpeed_91 : decode gb_Equations_readSpeed 91 = .ok (.imul, 1) := by decide +kernel
theorem gd_Equations_readSpeed_92 : decode gb_Equations_readSpeed 92 = .ok (.putfield 170, 3) := by decide +kernel
theorem gd_Equations_readSpeed_95 : decode gb_Equations_readSpeed 95 = .ok (.aload_n 0, 1) := by decide +kernel
theorem gd_Equations_readSpeed_96 : decode gb_Equations_readSpeed 96 = .ok (.getfield 55, 3) := by decide +kernel
theorem gd_Equations_readSpeed_99 : decode gb_Equations_readSpeed 99 = .ok (.getfield 182, 3) := by decide +kernel
theorem gd_Equations_readSpeed_102 : decode gb_Equations_readSpeed 102 = .ok (.iconst 1, 1) := by decide +kernel
theorem gd_Equations_readSpeed_103 : decode gb_Equations_readSpeed 103 = .ok (.putfield 170, 3) := by decide +kernel
theorem gd_Equations_readSpeed_106 : decode gb_Equations_readSpeed 106 = .ok (.aload_n 0, 1) := by decide +kernel
theorem gd_Equations_readSpeed_107 : decode gb_Equations_readSpeed 107 = .ok (.getfield 9, 3) := by decide +kernel
theorem gd_Equations_readSpeed_110 : decode gb_Equations_readSpeed 110 = .ok (.aload_n 0, 1) := by decide +kernel
theorem gd_Equations_readSpeed_111 : decode gb_Equations_readSpeed 111 = .ok (.getfield 55, 3) := by decide +kernel
theorem gd_Equations_readSpeed_114 : decode gb_Equations_readSpeed 114 = .ok (.invokevirtual 188, 3) := by decide +kernel
theorem gd_Equations_readSpeed_117 : decode gb_Equations_readSpeed 117 = .ok (.return_, 1) := by decide +kernel
def gf_Equations_readSpeed_b0 (F : Nat) (z : gw_Sh)  (u : gw_St) (t0 : Nat) (x1 : Int32) : Option gw_St :=
  if x1 = (u.1 t0 16) then (gf_nn (u.2.2 t0 10) fun q43 => gf_nn (u.2.2 q43 0) fun q45 => (gf_Whole_setLong F z u q45 (1 : Int64)).bind fun u47 => gf_nn (u47.2.2 t0 10) fun q49 => gf_nn (u47.2.2 q49 1) fun q51 => (gf_Whole_setLong F z u47 q51 (1 : Int64)).bind fun u53 => some u53) else (gf_nn (u.2.2 t0 10) fun q2 => gf_nn (u.2.2 q2 0) fun q4 => gf_nn (u.2.2 t0 3) fun q6 => if (x1 < 0 ∨ z.2.2 q6 ≤ (x1).toNatClampNeg) then none else (gf_Equations_load F z u t0 q4 (u.1 q6 (x1).toNatClampNeg) (u.1 t0 16)).bind fun u9 => gf_nn (u9.2.2 t0 10) fun q11 => gf_nn (u9.2.2 q11 1) fun q13 => gf_nn (u9.2.2 t0 11) fun q15 => (gf_Whole_copyFrom F z u9 q13 q15).bind fun u17 => gf_nn (u17.2.2 t0 10) fun q19 => gf_nn (u17.2.2 q19 0) fun q21 => gf_nn (u17.2.2 t0 10) fun q23 => gf_nn (u17.2.2 q23 0) fun q25 => gf_nn (u17.2.2 t0 11) fun q27 => gf_nm (gw_wi u17 q21 2 ((-(u17.1 q25 2)) * (u17.1 q27 2))) fun u29 => gf_nn (u29.2.2 t0 10) fun q31 => gf_nn (u29.2.2 q31 1) fun q33 => gf_nm (gw_wi u29 q33 2 (1 : Int32)) fun u35 => gf_nn (u35.2.2 t0 0) fun q37 => gf_nn (u35.2.2 t0 10) fun q39 => (gf_Calculator_reduce F z u35 q37 q39).bind fun u41 => some u41)
def gf_Equations_readSpeed (F : Nat) (z : gw_Sh) (u : gw_St) (t0 : Nat) (x1 : Int32) : Option gw_St := gf_Equations_readSpeed_b0 F z  u t0 x1
set_option maxHeartbeats 4000000 in
set_option maxRecDepth 20000 in
theorem gx_Equations_readSpeed_b0 {p : Program} {l : Launch} {e : Env} {s : State} {m : MethodId} {args : Array Value} {below : List Frame} {meth : Method} {c : Code} {D : va_G} {cA : Nat → ClassId} {hs : Nat → Nat} {z : gw_Sh} (F : Nat) {r0 : gw_St} (C : gw_Cx p s m args c gb_Equations_readSpeed 2 R_Equations D cA) (hr : meth.sig.returnType = none) (hk : meth.locks = false) (u : gw_St) (t0 : Nat) (x1 : Int32) (o_t0 : gw_ok z t0 4) {H : Heap} {locs : List Loc} {ls : Array Slot} (hW : gw_Wx D cA hs z s u H locs) (hl : lv_has ls 2 [(0, .ref (hs t0)), (1, .int x1)]) (h : gf_Equations_readSpeed_b0 F z   u t0 x1 = some r0) : gw_Gv p l e gr_Equations_readSpeed s m args below meth c D cA hs z r0 H locs ls 0 [] := by
  obtain ⟨hx, hb, hml, hown, hts, hK⟩ := id C
  unfold gf_Equations_readSpeed_b0 at h
  refine lv_iload_n hx hb gd_Equations_readSpeed_0 rfl (lv_at hl 1 rfl) ?_
  refine lv_aload_n hx hb gd_Equations_readSpeed_1 rfl (lv_at hl 0 rfl) ?_
  refine gw_geti (k := 16) (ref := R_Equations) C hW o_t0 (by decide) rfl gi_Equations rfl (by decide) rfl rfl gk_273 gd_Equations_readSpeed_2 ?_
  refine lv_icmp_ne (tgt := 31) hx hb gd_Equations_readSpeed_5 (by decide) (fun c1 => ?_) (fun c1 => ?_)
  · have h := gf_f c1 h
    refine lv_aload_n hx hb gd_Equations_readSpeed_31 rfl (lv_at hl 0 rfl) ?_
    refine lv_aload_n hx hb gd_Equations_readSpeed_32 rfl (lv_at hl 0 rfl) ?_
    obtain ⟨q2, e3, h⟩ := gf_nn_ok h
    refine gw_getr (k := 10) (ty := 6) (ref := R_Equations) C hW o_t0 (by decide) rfl gi_Equations rfl (by decide) rfl rfl gk_299 gd_Equations_readSpeed_33 e3 ?_
    have o_q2 := hW.ref (d := 6) o_t0 e3 rfl
    obtain ⟨q4, e5, h⟩ := gf_nn_ok h
    refine gw_getr (k := 0) (ty := 8) (ref := R_Fraction) C hW o_q2 (by decide) rfl gi_Fraction rfl (by decide) rfl rfl gk_300 gd_Equations_readSpeed_36 e5 ?_
    have o_q4 := hW.ref (d := 8) o_q2 e5 rfl
    refine lv_aload_n hx hb gd_Equations_readSpeed_39 rfl (lv_at hl 0 rfl) ?_
    obtain ⟨q6, e7, h⟩ := gf_nn_ok h
    refine gw_getr (k := 3) (ty := 10) (ref := R_Equations) C hW o_t0 (by decide) rfl gi_Equations rfl (by decide) rfl rfl gk_253 gd_Equations_readSpeed_40 e7 ?_
    have o_q6 := hW.ref (d := 10) o_t0 e7 rfl
    refine lv_iload_n hx hb gd_Equations_readSpeed_43 rfl (lv_at hl 1 rfl) ?_
    obtain ⟨g8, h⟩ := gf_if_ok h
    refine gw_iald C hW o_q6 g8 gd_Equations_readSpeed_44 ?_
    refine lv_aload_n hx hb gd_Equations_readSpeed_45 rfl (lv_at hl 0 rfl) ?_
    refine gw_geti (k := 16) (ref := R_Equations) C hW o_t0 (by decide) rfl gi_Equations rfl (by decide) rfl rfl gk_273 gd_Equations_readSpeed_46 ?_
    obtain ⟨u9, d10, h⟩ := gf_bd_ok h
    refine gw_callVv (K := R_Equations) (As := [.ref (hs q4), .int (u.1 q6 (x1).toNatClampNeg), .int (u.1 t0 16)]) (rest := []) C hW (fun _ h => Or.inr h) hl.1 gm_Equations_load (gc_Equations_load l F o_t0 o_q4 d10 _) gk_255 gk_256 gk_257 o_t0 (by decide) rfl rfl rfl ⟨Nat.le_of_ble_eq_true rfl, Nat.le_of_ble_eq_true rfl⟩ ⟨Nat.zero_le _, Nat.zero_le _⟩ rfl rfl (Nat.le_of_ble_eq_true rfl) gd_Equations_readSpeed_49 (fun H locs hW => ?_)
    refine lv_aload_n hx hb gd_Equations_readSpeed_52 rfl (lv_at hl 0 rfl) ?_
    obtain ⟨q11, e12, h⟩ := gf_nn_ok h
    refine gw_getr (k := 10) (ty := 6) (ref := R_Equations) C hW o_t0 (by decide) rfl gi_Equations rfl (by decide) rfl rfl gk_299 gd_Equations_readSpeed_53 e12 ?_
    have o_q11 := hW.ref (d := 6) o_t0 e12 rfl
    obtain ⟨q13, e14, h⟩ := gf_nn_ok h
    refine gw_getr (k := 1) (ty := 8) (ref := R_Fraction) C hW o_q11 (by decide) rfl gi_Fraction rfl (by decide) rfl rfl gk_301 gd_Equations_readSpeed_56 e14 ?_
    have o_q13 := hW.ref (d := 8) o_q11 e14 rfl
    refine lv_aload_n hx hb gd_Equations_readSpeed_59 rfl (lv_at hl 0 rfl) ?_
    obtain ⟨q15, e16, h⟩ := gf_nn_ok h
    refine gw_getr (k := 11) (ty := 8) (ref := R_Equations) C hW o_t0 (by decide) rfl gi_Equations rfl (by decide) rfl rfl gk_267 gd_Equations_readSpeed_60 e16 ?_
    have o_q15 := hW.ref (d := 8) o_t0 e16 rfl
    obtain ⟨u17, d18, h⟩ := gf_bd_ok h
    refine gw_callVv (K := R_Whole) (As := [.ref (hs q15)]) (rest := []) C hW (fun _ h => Or.inr h) hl.1 gm_Whole_copyFrom (gc_Whole_copyFrom l F o_q13 o_q15 d18 _) gk_302 gk_62 gk_63 o_q13 (by decide) rfl rfl rfl ⟨Nat.le_of_ble_eq_true rfl, Nat.le_of_ble_eq_true rfl⟩ ⟨Nat.zero_le _, Nat.zero_le _⟩ rfl rfl (Nat.le_of_ble_eq_true rfl) gd_Equations_readSpeed_63 (fun H locs hW => ?_)
    refine lv_aload_n hx hb gd_Equations_readSpeed_66 rfl (lv_at hl 0 rfl) ?_
    obtain ⟨q19, e20, h⟩ := gf_nn_ok h
    refine gw_getr (k := 10) (ty := 6) (ref := R_Equations) C hW o_t0 (by decide) rfl gi_Equations rfl (by decide) rfl rfl gk_299 gd_Equations_readSpeed_67 e20 ?_
    have o_q19 := hW.ref (d := 6) o_t0 e20 rfl
    obtain ⟨q21, e22, h⟩ := gf_nn_ok h
    refine gw_getr (k := 0) (ty := 8) (ref := R_Fraction) C hW o_q19 (by decide) rfl gi_Fraction rfl (by decide) rfl rfl gk_300 gd_Equations_readSpeed_70 e22 ?_
    have o_q21 := hW.ref (d := 8) o_q19 e22 rfl
    refine lv_aload_n hx hb gd_Equations_readSpeed_73 rfl (lv_at hl 0 rfl) ?_
    obtain ⟨q23, e24, h⟩ := gf_nn_ok h
    refine gw_getr (k := 10) (ty := 6) (ref := R_Equations) C hW o_t0 (by decide) rfl gi_Equations rfl (by decide) rfl rfl gk_299 gd_Equations_readSpeed_74 e24 ?_
    have o_q23 := hW.ref (d := 6) o_t0 e24 rfl
    obtain ⟨q25, e26, h⟩ := gf_nn_ok h
    refine gw_getr (k := 0) (ty := 8) (ref := R_Fraction) C hW o_q23 (by decide) rfl gi_Fraction rfl (by decide) rfl rfl gk_300 gd_Equations_readSpeed_77 e26 ?_
    have o_q25 := hW.ref (d := 8) o_q23 e26 rfl
    refine gw_geti (k := 2) (ref := R_Whole) C hW o_q25 (by decide) rfl gi_Whole rfl (by decide) rfl rfl gk_242 gd_Equations_readSpeed_80 ?_
    refine lv_ineg hx hb gd_Equations_readSpeed_83 ?_
    refine lv_aload_n hx hb gd_Equations_readSpeed_84 rfl (lv_at hl 0 rfl) ?_
    obtain ⟨q27, e28, h⟩ := gf_nn_ok h
    refine gw_getr (k := 11) (ty := 8) (ref := R_Equations) C hW o_t0 (by decide) rfl gi_Equations rfl (by decide) rfl rfl gk_267 gd_Equations_readSpeed_85 e28 ?_
    have o_q27 := hW.ref (d := 8) o_t0 e28 rfl
    refine gw_geti (k := 2) (ref := R_Whole) C hW o_q27 (by decide) rfl gi_Whole rfl (by decide) rfl rfl gk_242 gd_Equations_readSpeed_88 ?_
    refine lv_imul hx hb gd_Equations_readSpeed_91 ?_
    refine gw_puti (k := 2) (ref := R_Whole) (fty := .int) C hW o_q21 (by decide) rfl gi_Whole rfl (by decide) rfl rfl gk_242 tf_Whole tf_Whole_ok nm_Whole rfl rfl rfl rfl gd_Equations_readSpeed_92 (fun u29 H locs e30 hW => ?_)
    have h := gf_nm_ok e30 h
    refine lv_aload_n hx hb gd_Equations_readSpeed_95 rfl (lv_at hl 0 rfl) ?_
    obtain ⟨q31, e32, h⟩ := gf_nn_ok h
    refine gw_getr (k := 10) (ty := 6) (ref := R_Equations) C hW o_t0 (by decide) rfl gi_Equations rfl (by decide) rfl rfl gk_299 gd_Equations_readSpeed_96 e32 ?_
    have o_q31 := hW.ref (d := 6) o_t0 e32 rfl
    obtain ⟨q33, e34, h⟩ := gf_nn_ok h
    refine gw_getr (k := 1) (ty := 8) (ref := R_Fraction) C hW o_q31 (by decide) rfl gi_Fraction rfl (by decide) rfl rfl gk_301 gd_Equations_readSpeed_99 e34 ?_
    have o_q33 := hW.ref (d := 8) o_q31 e34 rfl
    refine lv_iconst (v := 1) hx hb gd_Equations_readSpeed_102 (by decide) ?_
    refine gw_puti (k := 2) (ref := R_Whole) (fty := .int) C hW o_q33 (by decide) rfl gi_Whole rfl (by decide) rfl rfl gk_242 tf_Whole tf_Whole_ok nm_Whole rfl rfl rfl rfl gd_Equations_readSpeed_103 (fun u35 H locs e36 hW => ?_)
    have h := gf_nm_ok e36 h
    refine lv_aload_n hx hb gd_Equations_readSpeed_106 rfl (lv_at hl 0 rfl) ?_
    obtain ⟨q37, e38, h⟩ := gf_nn_ok h
    refine gw_getr (k := 0) (ty := 7) (ref := R_Equations) C hW o_t0 (by decide) rfl gi_Equations rfl (by decide) rfl rfl gk_276 gd_Equations_readSpeed_107 e38 ?_
    have o_q37 := hW.ref (d := 7) o_t0 e38 rfl
    refine lv_aload_n hx hb gd_Equations_readSpeed_110 rfl (lv_at hl 0 rfl) ?_
    obtain ⟨q39, e40, h⟩ := gf_nn_ok h
    refine gw_getr (k := 10) (ty := 6) (ref := R_Equations) C hW o_t0 (by decide) rfl gi_Equations rfl (by decide) rfl rfl gk_299 gd_Equations_readSpeed_111 e40 ?_
    have o_q39 := hW.ref (d := 6) o_t0 e40 rfl
    obtain ⟨u41, d42, h⟩ := gf_bd_ok h
    refine gw_callVv (K := R_Calculator) (As := [.ref (hs q39)]) (rest := []) C hW (fun _ h => Or.inr h) hl.1 gm_Calculator_reduce (gc_Calculator_reduce l F o_q37 o_q39 d42 _) gk_303 gk_304 gk_305 o_q37 (by decide) rfl rfl rfl ⟨Nat.le_of_ble_eq_true rfl, Nat.le_of_ble_eq_true rfl⟩ ⟨Nat.zero_le _, Nat.zero_le _⟩ rfl rfl (Nat.le_of_ble_eq_true rfl) gd_Equations_readSpeed_114 (fun H locs hW => ?_)
    obtain rfl := Option.some.inj h
    exact gw_vret C hW hr hk gd_Equations_readSpeed_117
  · have h := gf_t c1 h
    refine lv_aload_n hx hb gd_Equations_readSpeed_8 rfl (lv_at hl 0 rfl) ?_
    obtain ⟨q43, e44, h⟩ := gf_nn_ok h
    refine gw_getr (k := 10) (ty := 6) (ref := R_Equations) C hW o_t0 (by decide) rfl gi_Equations rfl (by decide) rfl rfl gk_299 gd_Equations_readSpeed_9 e44 ?_
    have o_q43 := hW.ref (d := 6) o_t0 e44 rfl
    obtain ⟨q45, e46, h⟩ := gf_nn_ok h
    refine gw_getr (k := 0) (ty := 8) (ref := R_Fraction) C hW o_q43 (by decide) rfl gi_Fraction rfl (by decide) rfl rfl gk_300 gd_Equations_readSpeed_12 e46 ?_
    have o_q45 := hW.ref (d := 8) o_q43 e46 rfl
    refine lv_lconst (v := 1) hx hb gd_Equations_readSpeed_15 (by decide) ?_
    obtain ⟨u47, d48, h⟩ := gf_bd_ok h
    refine gw_callVv (K := R_Whole) (As := [.long (1 : Int64)]) (rest := []) C hW (fun _ h => Or.inr h) hl.1 gm_Whole_setLong (gc_Whole_setLong l F o_q45 d48 _) gk_259 gk_71 gk_72 o_q45 (by decide) rfl rfl rfl ⟨Nat.le_of_ble_eq_true rfl, Nat.le_of_ble_eq_true rfl⟩ ⟨Nat.zero_le _, Nat.zero_le _⟩ rfl rfl (Nat.le_of_ble_eq_true rfl) gd_Equations_readSpeed_16 (fun H locs hW => ?_)
    refine lv_aload_n hx hb gd_Equations_readSpeed_19 rfl (lv_at hl 0 rfl) ?_
    obtain ⟨q49, e50, h⟩ := gf_nn_ok h
    refine gw_getr (k := 10) (ty := 6) (ref := R_Equations) C hW o_t0 (by decide) rfl gi_Equations rfl (by decide) rfl rfl gk_299 gd_Equations_readSpeed_20 e50 ?_
    have o_q49 := hW.ref (d := 6) o_t0 e50 rfl
    obtain ⟨q51, e52, h⟩ := gf_nn_ok h
    refine gw_getr (k := 1) (ty := 8) (ref := R_Fraction) C hW o_q49 (by decide) rfl gi_Fraction rfl (by decide) rfl rfl gk_301 gd_Equations_readSpeed_23 e52 ?_
    have o_q51 := hW.ref (d := 8) o_q49 e52 rfl
    refine lv_lconst (v := 1) hx hb gd_Equations_readSpeed_26 (by decide) ?_
    obtain ⟨u53, d54, h⟩ := gf_bd_ok h
    refine gw_callVv (K := R_Whole) (As := [.long (1 : Int64)]) (rest := []) C hW (fun _ h => Or.inr h) hl.1 gm_Whole_setLong (gc_Whole_setLong l F o_q51 d54 _) gk_259 gk_71 gk_72 o_q51 (by decide) rfl rfl rfl ⟨Nat.le_of_ble_eq_true rfl, Nat.le_of_ble_eq_true rfl⟩ ⟨Nat.zero_le _, Nat.zero_le _⟩ rfl rfl (Nat.le_of_ble_eq_true rfl) gd_Equations_readSpeed_27 (fun H locs hW => ?_)
    obtain rfl := Option.some.inj h
    exact gw_vret C hW hr hk gd_Equations_readSpeed_30

set_option maxRecDepth 20000 in
theorem gc_Equations_readSpeed (l : Launch) {D : va_G} {cA : Nat → ClassId} {hs : Nat → Nat} {z : gw_Sh} (F : Nat) {u : gw_St} {r0 : gw_St} {t0 : Nat} {x1 : Int32} (o_t0 : gw_ok z t0 4) (h : gf_Equations_readSpeed F z u t0 x1 = some r0) (sz : Nat) : gw_Mv l gy_Equations_readSpeed gb_Equations_readSpeed 2 none gr_Equations_readSpeed [.ref (hs t0), .int x1] D cA hs z u sz r0 := by
  refine gw_enter (by decide) (Nat.le_of_ble_eq_true rfl) ?_
  intro p e s m below meth c ls hsz C hW hr hk _ hl
  subst hsz
  exact gx_Equations_readSpeed_b0 F C hr hk u t0 x1 o_t0 hW (lv_sub hl [0, 1] rfl) h
-- GearDesk$Equations.readSpeeds(LGearDesk$Speeds;)Z
theorem gk_307 : Cond.fieldLink R_Equations 114 R_Speeds "known" "[Z" ∈ gt_T := gt_m2 (List.mem_of_getElem? (i := 81) rfl) rfl
theorem gk_308 : Cond.methodLink R_Equations 118 gy_Equations_isDetermined ∈ gt_T := gt_m5 (List.mem_of_getElem? (i := 145) rfl) rfl
theorem gk_309 : Cond.instanceMethod gy_Equations_isDetermined ∈ gt_T := gt_m5 (List.mem_of_getElem? (i := 147) rfl) rfl
theorem gk_310 : Cond.selects R_Equations gy_Equations_isDetermined gy_Equations_isDetermined ∈ gt_T := gt_p2 (List.mem_of_getElem? (i := 12) rfl) rfl
theorem gk_311 : Cond.methodLink R_Equations 122 gy_Equations_readSpeed ∈ gt_T := gt_m5 (List.mem_of_getElem? (i := 149) rfl) rfl
theorem gk_312 : Cond.instanceMethod gy_Equations_readSpeed ∈ gt_T := gt_m5 (List.mem_of_getElem? (i := 151) rfl) rfl
theorem gk_313 : Cond.selects R_Equations gy_Equations_readSpeed gy_Equations_readSpeed ∈ gt_T := gt_p2 (List.mem_of_getElem? (i := 13) rfl) rfl
theorem gk_314 : Cond.methodLink R_Equations 125 gy_Fraction_isTooLarge ∈ gt_T := gt_m5 (List.mem_of_getElem? (i := 164) rfl) rfl
theorem gk_315 : Cond.instanceMethod gy_Fraction_isTooLarge ∈ gt_T := gt_m5 (List.mem_of_getElem? (i := 165) rfl) rfl
theorem gk_316 : Cond.selects R_Fraction gy_Fraction_isTooLarge gy_Fraction_isTooLarge ∈ gt_T := gt_m5 (List.mem_of_getElem? (i := 166) rfl) rfl
theorem gk_317 : Cond.fieldLink R_Equations 129 R_Speeds "values" "[LGearDesk$Fraction;" ∈ gt_T := gt_m2 (List.mem_of_getElem? (i := 84) rfl) rfl
theorem gk_318 : Cond.methodLink R_Equations 133 gy_Fraction_copyFrom ∈ gt_T := gt_m5 (List.mem_of_getElem? (i := 173) rfl) rfl
theorem gk_319 : Cond.instanceMethod gy_Fraction_copyFrom ∈ gt_T := gt_m5 (List.mem_of_getElem? (i := 174) rfl) rfl
theorem gk_320 : Cond.selects R_Fraction gy_Fraction_copyFrom gy_Fraction_copyFrom ∈ gt_T := gt_m5 (List.mem_of_getElem? (i := 175) rfl) rfl
theorem gk_321 : Cond.methodLink R_Equations 109 gy_Speeds_forget ∈ gt_T := gt_m5 (List.mem_of_getElem? (i := 144) rfl) rfl
theorem gk_322 : Cond.instanceMethod gy_Speeds_forget ∈ gt_T := gt_m2 (List.mem_of_getElem? (i := 132) rfl) rfl
theorem gk_323 : Cond.selects R_Speeds gy_Speeds_forget gy_Speeds_forget ∈ gt_T := gt_m2 (List.mem_of_getElem? (i := 133) rfl) rfl
def gy_Equations_readSpeeds : MethodName := ⟨R_Equations, "readSpeeds", "(LGearDesk$Speeds;)Z"⟩
abbrev gb_Equations_readSpeeds : ByteArray := prog_3_method_3_code
theorem gk_324 : Cond.code gy_Equations_readSpeeds gb_Equations_readSpeeds 3 (some .boolean) ∈ gt_T := gt_m5 (List.mem_of_getElem? (i := 143) rfl) rfl
def gr_Equations_readSpeeds : Room := gw_rm 7 205
theorem gm_Equations_readSpeeds : gw_Mth gy_Equations_readSpeeds gb_Equations_readSpeeds 3 (some .boolean) 1 := ⟨gk_324, gk_226, ⟨by decide +kernel, by decide +kernel⟩, by decide +kernel⟩
theorem gd_Equations_readSpeeds_0 : decode gb_Equations_readSpeeds 0 = .ok (.aload_n 1, 1) := by decide +kernel
theorem gd_Equations_readSpeeds_1 : decode gb_Equations_readSpeeds 1 = .ok (.invokevirtual 109, 3) := by decide +kernel
theorem gd_Equations_readSpeeds_4 : decode gb_Equations_readSpeeds 4 = .ok (.iconst 0, 1) := by decide +kernel
theorem gd_Equations_readSpeeds_5 : decode gb_Equations_readSpeeds 5 = .ok (.istore_n 2, 1) := by decide +kernel
theorem gd_Equations_readSpeeds_6 : decode gb_Equations_readSpeeds 6 = .ok (.iload_n 2, 1) := by decide +kernel
theorem gd_Equations_readSpeeds_7 : decode gb_Equations_readSpeeds 7 = .ok (.aload_n 0, 1) := by decide +kernel
theorem gd_Equations_readSpeeds_8 : decode gb_Equations_readSpeeds 8 = .ok (.getfield 71, 3) := by decide +kernel
theorem gd_Equations_readSpeeds_11 : decode gb_Equations_readSpeeds 11 = .ok (.if_icmp .ge 59, 3) := by decide +kernel
theorem gd_Equations_readSpeeds_14 : decode gb_Equations_readSpeeds 14 = .ok (.aload_n 1, 1) := by decide +kernel
theorem gd_Equations_readSpeeds_15 : decode gb_Equations_readSpeeds 15 = .ok (.getfield 114, 3) := by decide +kernel
theorem gd_Equations_readSpeeds_18 : decode gb_Equations_readSpeeds 18 = .ok (.iload_n 2, 1) := by decide +kernel
theorem gd_Equations_readSpeeds_19 : decode gb_Equations_readSpeeds 19 = .ok (.aload_n 0, 1) := by decide +kernel
theorem gd_Equations_readSpeeds_20 : decode gb_Equations_readSpeeds 20 = .ok (.iload_n 2, 1) := by decide +kernel
theorem gd_Equations_readSpeeds_21 : decode gb_Equations_readSpeeds 21 = .ok (.invokevirtual 118, 3) := by decide +kernel
theorem gd_Equations_readSpeeds_24 : decode gb_Equations_readSpeeds 24 = .ok (.bastore, 1) := by decide +kernel
theorem gd_Equations_readSpeeds_25 : decode gb_Equations_readSpeeds 25 = .ok (.aload_n 1, 1) := by decide +kernel
theorem gd_Equations_readSpeeds_26 : decode gb_Equations_readSpeeds 26 = .ok (.getfield 114, 3) := by decide +kernel
theorem gd_Equations_readSpeeds_29 : decode gb_Equations_readSpeeds 29 = .ok (.iload_n 2, 1) := by decide +kernel
theorem gd_Equations_readSpeeds_30 : decode gb_Equations_readSpeeds 30 = .ok (.baload, 1) := by decide +kernel
theorem gd_Equations_readSpeeds_31 : decode gb_Equations_readSpeeds 31 = .ok (.ifCond .eq 33, 3) := by decide +kernel
theorem gd_Equations_readSpeeds_34 : decode gb_Equations_readSpeeds 34 = .ok (.aload_n 0, 1) := by decide +kernel
theorem gd_Equations_readSpeeds_35 : decode gb_Equations_readSpeeds 35 = .ok (.iload_n 2, 1) := by decide +kernel
theorem gd_Equations_readSpeeds_36 : decode gb_Equations_readSpeeds 36 = .ok (.invokevirtual 122, 3) := by decide +kernel
theorem gd_Equations_readSpeeds_39 : decode gb_Equations_readSpeeds 39 = .ok (.aload_n 0, 1) := by decide +kernel
theorem gd_Equations_readSpeeds_40 : decode gb_Equations_readSpeeds 40 = .ok (.getfield 55, 3) := by decide +kernel
theorem gd_Equations_readSpeeds_43 : decode gb_Equations_readSpeeds 43 = .ok (.invokevirtual 125, 3) := by decide +kernel
theorem gd_Equations_readSpeeds_46 : decode gb_Equations_readSpeeds 46 = .ok (.ifCond .eq 5, 3) := by decide +kernel
theorem gd_Equations_readSpeeds_49 : decode gb_Equations_readSpeeds 49 = .ok (.iconst 0, 1) := by decide +kernel
theorem gd_Equations_readSpeeds_50 : decode gb_Equations_readSpeeds 50 = .ok (.ireturn, 1) := by decide +kernel
theorem gd_Equations_readSpeeds_51 : decode gb_Equations_readSpeeds 51 = .ok (.aload_n 1, 1) := by decide +kernel
theorem gd_Equations_readSpeeds_52 : decode gb_Equations_readSpeeds 52 = .ok (.getfield 129, 3) := by decide +kernel
theorem gd_Equations_readSpeeds_55 : decode gb_Equations_readSpeeds 55 = .ok (.iload_n 2, 1) := by decide +kernel
theorem gd_Equations_readSpeeds_56 : decode gb_Equations_readSpeeds 56 = .ok (.aaload, 1) := by decide +kernel
theorem gd_Equations_readSpeeds_57 : decode gb_Equations_readSpeeds 57 = .ok (.aload_n 0, 1) := by decide +kernel
theorem gd_Equations_readSpeeds_58 : decode gb_Equations_readSpeeds 58 = .ok (.getfield 55, 3) := by decide +kernel
theorem gd_Equations_readSpeeds_61 : decode gb_Equations_readSpeeds 61 = .ok (.invokevirtual 133, 3) := by decide +kernel
theorem gd_Equations_readSpeeds_64 : decode gb_Equations_readSpeeds 64 = .ok (.iinc 2 1, 3) := by decide +kernel
theorem gd_Equations_readSpeeds_67 : decode gb_Equations_readSpeeds 67 = .ok (.goto (-61), 3) := by decide +kernel
theorem gd_Equations_readSpeeds_70 : decode gb_Equations_readSpeeds 70 = .ok (.iconst 1, 1) := by decide +kernel
theorem gd_Equations_readSpeeds_71 : decode gb_Equations_readSpeeds 71 = .ok (.ireturn, 1) := by decide +kernel
def gf_Equations_readSpeeds_b64 (F : Nat) (z : gw_Sh) (rc_6 : gw_St → Nat → Nat → Int32 → Option (Int32 × gw_St)) (u : gw_St) (t0 : Nat) (t1 : Nat) (x2 : Int32) : Option (Int32 × gw_St) :=
  gf_nm (x2 + 1) fun a1 => rc_6 u t0 t1 a1
def gf_Equations_readSpeeds_S6 (F : Nat) (z : gw_Sh)  (rc_6 : gw_St → Nat → Nat → Int32 → Option (Int32 × gw_St)) (u : gw_St) (t0 : Nat) (t1 : Nat) (x2 : Int32) : Option (Int32 × gw_St) :=
  if (u.1 t0 14) ≤ x2 then (if ¬ ((1 : Int32) &&& 1 = (1 : Int32)) then none else some ((1 : Int32), u)) else (gf_nn (u.2.2 t1 0) fun q5 => gf_cl (gf_Equations_isDetermined F z u t0 x2) fun a9 u7 => if (x2 < 0 ∨ z.2.2 q5 ≤ (x2).toNatClampNeg) then none else gf_nm (gw_wi u7 q5 (x2).toNatClampNeg (vp_nar .boolean a9)) fun u11 => gf_nn (u11.2.2 t1 0) fun q13 => if (x2 < 0 ∨ z.2.2 q13 ≤ (x2).toNatClampNeg) then none else if (u11.1 q13 (x2).toNatClampNeg) = 0 then (gf_Equations_readSpeeds_b64 F z rc_6 u11 t0 t1 x2) else ((gf_Equations_readSpeed F z u11 t0 x2).bind fun u17 => gf_nn (u17.2.2 t0 10) fun q19 => gf_cl (gf_Fraction_isTooLarge F z u17 q19) fun a23 u21 => if a23 = 0 then (gf_nn (u21.2.2 t1 1) fun q25 => if (x2 < 0 ∨ z.2.2 q25 ≤ (x2).toNatClampNeg) then none else gf_nn (u21.2.2 q25 (x2).toNatClampNeg) fun q28 => gf_nn (u21.2.2 t0 10) fun q30 => (gf_Fraction_copyFrom F z u21 q28 q30).bind fun u32 => gf_Equations_readSpeeds_b64 F z rc_6 u32 t0 t1 x2) else (if ¬ ((0 : Int32) &&& 1 = (0 : Int32)) then none else some ((0 : Int32), u21))))
def gf_Equations_readSpeeds_L6 (F : Nat) (z : gw_Sh)  : Nat → gw_St → Nat → Nat → Int32 → Option (Int32 × gw_St)
  | 0 => fun _ _ _ _ => none
  | n + 1 => fun u t0 t1 x2 => gf_Equations_readSpeeds_S6 F z  (gf_Equations_readSpeeds_L6 F z  n) u t0 t1 x2
def gf_Equations_readSpeeds_b0 (F : Nat) (z : gw_Sh)  (u : gw_St) (t0 : Nat) (t1 : Nat) : Option (Int32 × gw_St) :=
  (gf_Speeds_forget F z u t1).bind fun u35 => gf_Equations_readSpeeds_L6 F z  F u35 t0 t1 0
def gf_Equations_readSpeeds (F : Nat) (z : gw_Sh) (u : gw_St) (t0 : Nat) (t1 : Nat) : Option (Int32 × gw_St) := gf_Equations_readSpeeds_b0 F z  u t0 t1
set_option maxHeartbeats 4000000 in
set_option maxRecDepth 20000 in
theorem gx_Equations_readSpeeds_b64 {p : Program} {l : Launch} {e : Env} {s : State} {m : MethodId} {args : Array Value} {below : List Frame} {meth : Method} {c : Code} {D : va_G} {cA : Nat → ClassId} {hs : Nat → Nat} {z : gw_Sh} (F : Nat) {r0 : (Int32 × gw_St)} (C : gw_Cx p s m args c gb_Equations_readSpeeds 3 R_Equations D cA) (hr : meth.sig.returnType = (some .boolean)) (hk : meth.locks = false) {rc_6 : gw_St → Nat → Nat → Int32 → Option (Int32 × gw_St)} (k_6 : ∀ (u : gw_St) (t0 : Nat) (t1 : Nat) (x2 : Int32) (H : Heap) (locs : List Loc) (ls : Array Slot), gw_ok z t0 4 → gw_ok z t1 3 → gw_Wx D cA hs z s u H locs → lv_has ls 3 [(0, .ref (hs t0)), (1, .ref (hs t1)), (2, .int x2)] → rc_6 u t0 t1 x2 = some r0 → gw_Gi p l e gr_Equations_readSpeeds s m args below meth c D cA hs z r0 H locs ls 6 []) (u : gw_St) (t0 : Nat) (t1 : Nat) (x2 : Int32) (o_t0 : gw_ok z t0 4) (o_t1 : gw_ok z t1 3) {H : Heap} {locs : List Loc} {ls : Array Slot} (hW : gw_Wx D cA hs z s u H locs) (hl : lv_has ls 3 [(0, .ref (hs t0)), (1, .ref (hs t1)), (2, .int x2)]) (h : gf_Equations_readSpeeds_b64 F z rc_6  u t0 t1 x2 = some r0) : gw_Gi p l e gr_Equations_readSpeeds s m args below meth c D cA hs z r0 H locs ls 64 [] := by
  obtain ⟨hx, hb, hml, hown, hts, hK⟩ := id C
  unfold gf_Equations_readSpeeds_b64 at h
  obtain ⟨a1, e2⟩ : ∃ y : Int32, y = x2 + 1 := ⟨_, rfl⟩
  have h := gf_nm_ok e2 h
  refine lv_iinc (v := a1) (lv' := [(2, .int a1), (0, .ref (hs t0)), (1, .ref (hs t1))]) hx hb gd_Equations_readSpeeds_64 hl (k := 2) rfl (by rw [e2]; rfl) (by decide) rfl (fun ls hl => ?_)
  refine lv_goto (tgt := 6) hx hb gd_Equations_readSpeeds_67 (by decide) ?_
  exact k_6 u t0 t1 a1 _ _ _ o_t0 o_t1 hW (lv_sub hl [1, 2, 0] rfl) h

set_option maxHeartbeats 4000000 in
set_option maxRecDepth 20000 in
theorem gx_Equations_readSpeeds_S6 {p : Program} {l : Launch} {e : Env} {s : State} {m : MethodId} {args : Array Value} {below : List Frame} {meth : Method} {c : Code} {D : va_G} {cA : Nat → ClassId} {hs : Nat → Nat} {z : gw_Sh} (F : Nat) {r0 : (Int32 × gw_St)} (C : gw_Cx p s m args c gb_Equations_readSpeeds 3 R_Equations D cA) (hr : meth.sig.returnType = (some .boolean)) (hk : meth.locks = false) {rc_6 : gw_St → Nat → Nat → Int32 → Option (Int32 × gw_St)} (k_6 : ∀ (u : gw_St) (t0 : Nat) (t1 : Nat) (x2 : Int32) (H : Heap) (locs : List Loc) (ls : Array Slot), gw_ok z t0 4 → gw_ok z t1 3 → gw_Wx D cA hs z s u H locs → lv_has ls 3 [(0, .ref (hs t0)), (1, .ref (hs t1)), (2, .int x2)] → rc_6 u t0 t1 x2 = some r0 → gw_Gi p l e gr_Equations_readSpeeds s m args below meth c D cA hs z r0 H locs ls 6 []) (u : gw_St) (t0 : Nat) (t1 : Nat) (x2 : Int32) (o_t0 : gw_ok z t0 4) (o_t1 : gw_ok z t1 3) {H : Heap} {locs : List Loc} {ls : Array Slot} (hW : gw_Wx D cA hs z s u H locs) (hl : lv_has ls 3 [(0, .ref (hs t0)), (1, .ref (hs t1)), (2, .int x2)]) (h : gf_Equations_readSpeeds_S6 F z  rc_6 u t0 t1 x2 = some r0) : gw_Gi p l e gr_Equations_readSpeeds s m args below meth c D cA hs z r0 H locs ls 6 [] := by
  obtain ⟨hx, hb, hml, hown, hts, hK⟩ := id C
  unfold gf_Equations_readSpeeds_S6 at h
  refine lv_iload_n hx hb gd_Equations_readSpeeds_6 rfl (lv_at hl 2 rfl) ?_
  refine lv_aload_n hx hb gd_Equations_readSpeeds_7 rfl (lv_at hl 0 rfl) ?_
  refine gw_geti (k := 14) (ref := R_Equations) C hW o_t0 (by decide) rfl gi_Equations rfl (by decide) rfl rfl gk_269 gd_Equations_readSpeeds_8 ?_
  refine lv_icmp_ge (tgt := 70) hx hb gd_Equations_readSpeeds_11 (by decide) (fun c3 => ?_) (fun c3 => ?_)
  · have h := gf_t c3 h
    refine lv_iconst (v := 1) hx hb gd_Equations_readSpeeds_70 (by decide) ?_
    obtain ⟨g4, h⟩ := gf_if_ok h
    obtain rfl := Option.some.inj h
    exact gw_zret C hW hr (Decidable.not_not.mp g4) hk gd_Equations_readSpeeds_71
  · have h := gf_f c3 h
    refine lv_aload_n hx hb gd_Equations_readSpeeds_14 rfl (lv_at hl 1 rfl) ?_
    obtain ⟨q5, e6, h⟩ := gf_nn_ok h
    refine gw_getr (k := 0) (ty := 12) (ref := R_Speeds) C hW o_t1 (by decide) rfl gi_Speeds rfl (by decide) rfl rfl gk_307 gd_Equations_readSpeeds_15 e6 ?_
    have o_q5 := hW.ref (d := 12) o_t1 e6 rfl
    refine lv_iload_n hx hb gd_Equations_readSpeeds_18 rfl (lv_at hl 2 rfl) ?_
    refine lv_aload_n hx hb gd_Equations_readSpeeds_19 rfl (lv_at hl 0 rfl) ?_
    refine lv_iload_n hx hb gd_Equations_readSpeeds_20 rfl (lv_at hl 2 rfl) ?_
    obtain ⟨a9, u7, d8, h⟩ := gf_cl_ok h
    refine gw_callVi (K := R_Equations) (As := [.int x2]) (rest := [.int x2, .ref (hs q5)]) C hW (fun _ h => Or.inr h) hl.1 gm_Equations_isDetermined (gc_Equations_isDetermined l F o_t0 d8 _) gk_308 gk_309 gk_310 o_t0 (by decide) rfl rfl rfl ⟨Nat.le_of_ble_eq_true rfl, Nat.le_of_ble_eq_true rfl⟩ ⟨Nat.zero_le _, Nat.zero_le _⟩ rfl rfl (Nat.le_of_ble_eq_true rfl) gd_Equations_readSpeeds_21 (fun H locs hW => ?_)
    obtain ⟨g10, h⟩ := gf_if_ok h
    refine gw_zast C hW o_q5 g10 gd_Equations_readSpeeds_24 (fun u11 H locs e12 hW => ?_)
    have h := gf_nm_ok e12 h
    refine lv_aload_n hx hb gd_Equations_readSpeeds_25 rfl (lv_at hl 1 rfl) ?_
    obtain ⟨q13, e14, h⟩ := gf_nn_ok h
    refine gw_getr (k := 0) (ty := 12) (ref := R_Speeds) C hW o_t1 (by decide) rfl gi_Speeds rfl (by decide) rfl rfl gk_307 gd_Equations_readSpeeds_26 e14 ?_
    have o_q13 := hW.ref (d := 12) o_t1 e14 rfl
    refine lv_iload_n hx hb gd_Equations_readSpeeds_29 rfl (lv_at hl 2 rfl) ?_
    obtain ⟨g15, h⟩ := gf_if_ok h
    refine gw_zald C hW o_q13 g15 gd_Equations_readSpeeds_30 ?_
    refine lv_if_eq (tgt := 64) hx hb gd_Equations_readSpeeds_31 (by decide) (fun c16 => ?_) (fun c16 => ?_)
    · have h := gf_t c16 h
      exact gx_Equations_readSpeeds_b64 F C hr hk k_6 u11 t0 t1 x2 o_t0 o_t1 hW (lv_sub hl [0, 1, 2] rfl) h
    · have h := gf_f c16 h
      refine lv_aload_n hx hb gd_Equations_readSpeeds_34 rfl (lv_at hl 0 rfl) ?_
      refine lv_iload_n hx hb gd_Equations_readSpeeds_35 rfl (lv_at hl 2 rfl) ?_
      obtain ⟨u17, d18, h⟩ := gf_bd_ok h
      refine gw_callVv (K := R_Equations) (As := [.int x2]) (rest := []) C hW (fun _ h => Or.inr h) hl.1 gm_Equations_readSpeed (gc_Equations_readSpeed l F o_t0 d18 _) gk_311 gk_312 gk_313 o_t0 (by decide) rfl rfl rfl ⟨Nat.le_of_ble_eq_true rfl, Nat.le_of_ble_eq_true rfl⟩ ⟨Nat.zero_le _, Nat.zero_le _⟩ rfl rfl (Nat.le_of_ble_eq_true rfl) gd_Equations_readSpeeds_36 (fun H locs hW => ?_)
      refine lv_aload_n hx hb gd_Equations_readSpeeds_39 rfl (lv_at hl 0 rfl) ?_
      obtain ⟨q19, e20, h⟩ := gf_nn_ok h
      refine gw_getr (k := 10) (ty := 6) (ref := R_Equations) C hW o_t0 (by decide) rfl gi_Equations rfl (by decide) rfl rfl gk_299 gd_Equations_readSpeeds_40 e20 ?_
      have o_q19 := hW.ref (d := 6) o_t0 e20 rfl
      obtain ⟨a23, u21, d22, h⟩ := gf_cl_ok h
      refine gw_callVi (K := R_Fraction) (As := []) (rest := []) C hW (fun _ h => Or.inr h) hl.1 gm_Fraction_isTooLarge (gc_Fraction_isTooLarge l F o_q19 d22 _) gk_314 gk_315 gk_316 o_q19 (by decide) rfl rfl rfl ⟨Nat.le_of_ble_eq_true rfl, Nat.le_of_ble_eq_true rfl⟩ ⟨Nat.zero_le _, Nat.zero_le _⟩ rfl rfl (Nat.le_of_ble_eq_true rfl) gd_Equations_readSpeeds_43 (fun H locs hW => ?_)
      refine lv_if_eq (tgt := 51) hx hb gd_Equations_readSpeeds_46 (by decide) (fun c24 => ?_) (fun c24 => ?_)
      · have h := gf_t c24 h
        refine lv_aload_n hx hb gd_Equations_readSpeeds_51 rfl (lv_at hl 1 rfl) ?_
        obtain ⟨q25, e26, h⟩ := gf_nn_ok h
        refine gw_getr (k := 1) (ty := 13) (ref := R_Speeds) C hW o_t1 (by decide) rfl gi_Speeds rfl (by decide) rfl rfl gk_317 gd_Equations_readSpeeds_52 e26 ?_
        have o_q25 := hW.ref (d := 13) o_t1 e26 rfl
        refine lv_iload_n hx hb gd_Equations_readSpeeds_55 rfl (lv_at hl 2 rfl) ?_
        obtain ⟨g27, h⟩ := gf_if_ok h
        obtain ⟨q28, e29, h⟩ := gf_nn_ok h
        refine gw_aald C hW o_q25 g27 gd_Equations_readSpeeds_56 e29 ?_
        have o_q28 := hW.ref (d := 6) o_q25 e29 rfl
        refine lv_aload_n hx hb gd_Equations_readSpeeds_57 rfl (lv_at hl 0 rfl) ?_
        obtain ⟨q30, e31, h⟩ := gf_nn_ok h
        refine gw_getr (k := 10) (ty := 6) (ref := R_Equations) C hW o_t0 (by decide) rfl gi_Equations rfl (by decide) rfl rfl gk_299 gd_Equations_readSpeeds_58 e31 ?_
        have o_q30 := hW.ref (d := 6) o_t0 e31 rfl
        obtain ⟨u32, d33, h⟩ := gf_bd_ok h
        refine gw_callVv (K := R_Fraction) (As := [.ref (hs q30)]) (rest := []) C hW (fun _ h => Or.inr h) hl.1 gm_Fraction_copyFrom (gc_Fraction_copyFrom l F o_q28 o_q30 d33 _) gk_318 gk_319 gk_320 o_q28 (by decide) rfl rfl rfl ⟨Nat.le_of_ble_eq_true rfl, Nat.le_of_ble_eq_true rfl⟩ ⟨Nat.zero_le _, Nat.zero_le _⟩ rfl rfl (Nat.le_of_ble_eq_true rfl) gd_Equations_readSpeeds_61 (fun H locs hW => ?_)
        exact gx_Equations_readSpeeds_b64 F C hr hk k_6 u32 t0 t1 x2 o_t0 o_t1 hW (lv_sub hl [0, 1, 2] rfl) h
      · have h := gf_f c24 h
        refine lv_iconst (v := 0) hx hb gd_Equations_readSpeeds_49 (by decide) ?_
        obtain ⟨g34, h⟩ := gf_if_ok h
        obtain rfl := Option.some.inj h
        exact gw_zret C hW hr (Decidable.not_not.mp g34) hk gd_Equations_readSpeeds_50
set_option maxHeartbeats 4000000 in
set_option maxRecDepth 20000 in
theorem gx_Equations_readSpeeds_L6 {p : Program} {l : Launch} {e : Env} {s : State} {m : MethodId} {args : Array Value} {below : List Frame} {meth : Method} {c : Code} {D : va_G} {cA : Nat → ClassId} {hs : Nat → Nat} {z : gw_Sh} (F : Nat) {r0 : (Int32 × gw_St)} (C : gw_Cx p s m args c gb_Equations_readSpeeds 3 R_Equations D cA) (hr : meth.sig.returnType = (some .boolean)) (hk : meth.locks = false) : ∀ (n : Nat), ∀ (u : gw_St) (t0 : Nat) (t1 : Nat) (x2 : Int32) (H : Heap) (locs : List Loc) (ls : Array Slot), gw_ok z t0 4 → gw_ok z t1 3 → gw_Wx D cA hs z s u H locs → lv_has ls 3 [(0, .ref (hs t0)), (1, .ref (hs t1)), (2, .int x2)] → gf_Equations_readSpeeds_L6 F z  n u t0 t1 x2 = some r0 → gw_Gi p l e gr_Equations_readSpeeds s m args below meth c D cA hs z r0 H locs ls 6 [] := by
  intro n
  induction n with
  | zero =>
    intro u t0 t1 x2 H locs ls o_t0 o_t1 hW hl h
    cases h
  | succ n ih =>
    intro u t0 t1 x2 H locs ls o_t0 o_t1 hW hl h
    exact gx_Equations_readSpeeds_S6 F C hr hk  ih u t0 t1 x2 o_t0 o_t1 hW hl h

set_option maxHeartbeats 4000000 in
set_option maxRecDepth 20000 in
theorem gx_Equations_readSpeeds_b0 {p : Program} {l : Launch} {e : Env} {s : State} {m : MethodId} {args : Array Value} {below : List Frame} {meth : Method} {c : Code} {D : va_G} {cA : Nat → ClassId} {hs : Nat → Nat} {z : gw_Sh} (F : Nat) {r0 : (Int32 × gw_St)} (C : gw_Cx p s m args c gb_Equations_readSpeeds 3 R_Equations D cA) (hr : meth.sig.returnType = (some .boolean)) (hk : meth.locks = false) (u : gw_St) (t0 : Nat) (t1 : Nat) (o_t0 : gw_ok z t0 4) (o_t1 : gw_ok z t1 3) {H : Heap} {locs : List Loc} {ls : Array Slot} (hW : gw_Wx D cA hs z s u H locs) (hl : lv_has ls 3 [(0, .ref (hs t0)), (1, .ref (hs t1))]) (h : gf_Equations_readSpeeds_b0 F z   u t0 t1 = some r0) : gw_Gi p l e gr_Equations_readSpeeds s m args below meth c D cA hs z r0 H locs ls 0 [] := by
  obtain ⟨hx, hb, hml, hown, hts, hK⟩ := id C
  unfold gf_Equations_readSpeeds_b0 at h
  refine lv_aload_n hx hb gd_Equations_readSpeeds_0 rfl (lv_at hl 1 rfl) ?_
  obtain ⟨u35, d36, h⟩ := gf_bd_ok h
  refine gw_callVv (K := R_Speeds) (As := []) (rest := []) C hW (fun _ h => Or.inr h) hl.1 gm_Speeds_forget (gc_Speeds_forget l F o_t1 d36 _) gk_321 gk_322 gk_323 o_t1 (by decide) rfl rfl rfl ⟨Nat.le_of_ble_eq_true rfl, Nat.le_of_ble_eq_true rfl⟩ ⟨Nat.zero_le _, Nat.zero_le _⟩ rfl rfl (Nat.le_of_ble_eq_true rfl) gd_Equations_readSpeeds_1 (fun H locs hW => ?_)
  refine lv_iconst (v := 0) hx hb gd_Equations_readSpeeds_4 (by decide) ?_
  refine lv_istore_n (lv' := [(2, .int 0), (0, .ref (hs t0)), (1, .ref (hs t1))]) hx hb gd_Equations_readSpeeds_5 rfl hl (by decide) rfl (fun ls hl => ?_)
  exact gx_Equations_readSpeeds_L6 F C hr hk  F u35 t0 t1 0 _ _ _ o_t0 o_t1 hW (lv_sub hl [1, 2, 0] rfl) h

set_option maxRecDepth 20000 in
theorem gc_Equations_readSpeeds (l : Launch) {D : va_G} {cA : Nat → ClassId} {hs : Nat → Nat} {z : gw_Sh} (F : Nat) {u : gw_St} {r0 : (Int32 × gw_St)} {t0 : Nat} {t1 : Nat} (o_t0 : gw_ok z t0 4) (o_t1 : gw_ok z t1 3) (h : gf_Equations_readSpeeds F z u t0 t1 = some r0) (sz : Nat) : gw_Mi l gy_Equations_readSpeeds gb_Equations_readSpeeds 3 (some .boolean) gr_Equations_readSpeeds [.ref (hs t0), .ref (hs t1)] D cA hs z u sz r0 := by
  refine gw_enter (by decide) (Nat.le_of_ble_eq_true rfl) ?_
  intro p e s m below meth c ls hsz C hW hr hk _ hl
  subst hsz
  exact gx_Equations_readSpeeds_b0 F C hr hk u t0 t1 o_t0 o_t1 hW (lv_sub hl [0, 1] rfl) h
