-- GearDesk$Hands.point(LGearDesk$Fraction;III)I
theorem gk_325 : Cond.fieldLink R_Hands 27 R_Hands "factor" "LGearDesk$Whole;" ∈ gt_T := gt_m2 (List.mem_of_getElem? (i := 40) rfl) rfl
theorem gk_326 : Cond.methodLink R_Hands 37 gy_Whole_setLong ∈ gt_T := gt_m5 (List.mem_of_getElem? (i := 227) rfl) rfl
theorem gk_327 : Cond.fieldLink R_Hands 20 R_Hands "found" "LGearDesk$Fraction;" ∈ gt_T := gt_m2 (List.mem_of_getElem? (i := 38) rfl) rfl
theorem gk_328 : Cond.fieldLink R_Hands 48 R_Fraction "top" "LGearDesk$Whole;" ∈ gt_T := gt_m1 (List.mem_of_getElem? (i := 202) rfl) rfl
theorem gk_329 : Cond.fieldLink R_Hands 31 R_Hands "product" "LGearDesk$Whole;" ∈ gt_T := gt_m2 (List.mem_of_getElem? (i := 41) rfl) rfl
theorem gk_330 : Cond.methodLink R_Hands 44 gy_Whole_setProduct ∈ gt_T := gt_m5 (List.mem_of_getElem? (i := 228) rfl) rfl
theorem gk_331 : Cond.fieldLink R_Hands 7 R_Hands "calculator" "LGearDesk$Calculator;" ∈ gt_T := gt_m2 (List.mem_of_getElem? (i := 37) rfl) rfl
theorem gk_332 : Cond.fieldLink R_Hands 41 R_Fraction "bottom" "LGearDesk$Whole;" ∈ gt_T := gt_m1 (List.mem_of_getElem? (i := 208) rfl) rfl
theorem gk_333 : Cond.methodLink R_Hands 51 gy_Calculator_divide ∈ gt_T := gt_m5 (List.mem_of_getElem? (i := 229) rfl) rfl
theorem gk_334 : Cond.fieldLink R_Hands 54 R_Calculator "remainder" "LGearDesk$Whole;" ∈ gt_T := gt_m1 (List.mem_of_getElem? (i := 165) rfl) rfl
theorem gk_335 : Cond.methodLink R_Hands 57 gy_Whole_copyFrom ∈ gt_T := gt_m5 (List.mem_of_getElem? (i := 230) rfl) rfl
theorem gk_336 : Cond.fieldLink R_Hands 68 R_Calculator "quotient" "LGearDesk$Whole;" ∈ gt_T := gt_m1 (List.mem_of_getElem? (i := 162) rfl) rfl
theorem gk_337 : Cond.methodLink R_Hands 71 gy_Whole_word ∈ gt_T := gt_m5 (List.mem_of_getElem? (i := 232) rfl) rfl
theorem gk_338 : Cond.instanceMethod gy_Whole_word ∈ gt_T := gt_m5 (List.mem_of_getElem? (i := 201) rfl) rfl
theorem gk_339 : Cond.selects R_Whole gy_Whole_word gy_Whole_word ∈ gt_T := gt_m5 (List.mem_of_getElem? (i := 202) rfl) rfl
theorem gk_340 : Cond.methodLink R_Hands 75 gy_Calculator_reduce ∈ gt_T := gt_m5 (List.mem_of_getElem? (i := 233) rfl) rfl
theorem gk_341 : Cond.fieldLink R_Hands 61 R_Whole "sign" "I" ∈ gt_T := gt_m1 (List.mem_of_getElem? (i := 149) rfl) rfl
theorem gk_342 : Cond.methodLink R_Hands 65 gy_Whole_setDifference ∈ gt_T := gt_m5 (List.mem_of_getElem? (i := 231) rfl) rfl
theorem gk_343 : Cond.initialized R_Hands ∈ gt_T := gt_m1 (List.mem_of_getElem? (i := 8) rfl) rfl
def gy_Hands_point : MethodName := ⟨R_Hands, "point", "(LGearDesk$Fraction;III)I"⟩
abbrev gb_Hands_point : ByteArray := prog_5_method_2_code
theorem gk_344 : Cond.code gy_Hands_point gb_Hands_point 6 (some .int) ∈ gt_T := gt_m5 (List.mem_of_getElem? (i := 226) rfl) rfl
def gr_Hands_point : Room := gw_rm 6 184
theorem gm_Hands_point : gw_Mth gy_Hands_point gb_Hands_point 6 (some .int) 4 := ⟨gk_344, gk_343, ⟨by decide +kernel, by decide +kernel⟩, by decide +kernel⟩
theorem gd_Hands_point_0 : decode gb_Hands_point 0 = .ok (.aload_n 0, 1) := by decide +kernel
theorem gd_Hands_point_1 : decode gb_Hands_point 1 = .ok (.getfield 27, 3) := by decide +kernel
theorem gd_Hands_point_4 : decode gb_Hands_point 4 = .ok (.iload_n 3, 1) := by decide +kernel
theorem gd_Hands_point_5 : decode gb_Hands_point 5 = .ok (.i2l, 1) := by decide +kernel
theorem gd_Hands_point_6 : decode gb_Hands_point 6 = .ok (.invokevirtual 37, 3) := by decide +kernel
theorem gd_Hands_point_9 : decode gb_Hands_point 9 = .ok (.aload_n 0, 1) := by decide +kernel
theorem gd_Hands_point_10 : decode gb_Hands_point 10 = .ok (.getfield 20, 3) := by decide +kernel
theorem gd_Hands_point_13 : decode gb_Hands_point 13 = .ok (.getfield 41, 3) := by decide +kernel
theorem gd_Hands_point_16 : decode gb_Hands_point 16 = .ok (.aload_n 1, 1) := by decide +kernel
theorem gd_Hands_point_17 : decode gb_Hands_point 17 = .ok (.getfield 41, 3) := by decide +kernel
theorem gd_Hands_point_20 : decode gb_Hands_point 20 = .ok (.aload_n 0, 1) := by decide +kernel
theorem gd_Hands_point_21 : decode gb_Hands_point 21 = .ok (.getfield 27, 3) := by decide +kernel
theorem gd_Hands_point_24 : decode gb_Hands_point 24 = .ok (.invokevirtual 44, 3) := by decide +kernel
theorem gd_Hands_point_27 : decode gb_Hands_point 27 = .ok (.aload_n 0, 1) := by decide +kernel
theorem gd_Hands_point_28 : decode gb_Hands_point 28 = .ok (.getfield 27, 3) := by decide +kernel
theorem gd_Hands_point_31 : decode gb_Hands_point 31 = .ok (.iload_n 2, 1) := by decide +kernel
theorem gd_Hands_point_32 : decode gb_Hands_point 32 = .ok (.i2l, 1) := by decide +kernel
theorem gd_Hands_point_33 : decode gb_Hands_point 33 = .ok (.invokevirtual 37, 3) := by decide +kernel
theorem gd_Hands_point_36 : decode gb_Hands_point 36 = .ok (.aload_n 0, 1) := by decide +kernel
theorem gd_Hands_point_37 : decode gb_Hands_point 37 = .ok (.getfield 31, 3) := by decide +kernel
theorem gd_Hands_point_40 : decode gb_Hands_point 40 = .ok (.aload_n 1, 1) := by decide +kernel
theorem gd_Hands_point_41 : decode gb_Hands_point 41 = .ok (.getfield 48, 3) := by decide +kernel
theorem gd_Hands_point_44 : decode gb_Hands_point 44 = .ok (.aload_n 0, 1) := by decide +kernel
theorem gd_Hands_point_45 : decode gb_Hands_point 45 = .ok (.getfield 27, 3) := by decide +kernel
theorem gd_Hands_point_48 : decode gb_Hands_point 48 = .ok (.invokevirtual 44, 3) := by decide +kernel
theorem gd_Hands_point_51 : decode gb_Hands_point 51 = .ok (.aload_n 0, 1) := by decide +kernel
theorem gd_Hands_point_52 : decode gb_Hands_point 52 = .ok (.getfield 7, 3) := by decide +kernel
theorem gd_Hands_point_55 : decode gb_Hands_point 55 = .ok (.aload_n 0, 1) := by decide +kernel
theorem gd_Hands_point_56 : decode gb_Hands_point 56 = .ok (.getfield 31, 3) := by decide +kernel
theorem gd_Hands_point_59 : decode gb_Hands_point 59 = .ok (.aload_n 0, 1) := by decide +kernel
theorem gd_Hands_point_60 : decode gb_Hands_point 60 = .ok (.getfield 20, 3) := by decide +kernel
theorem gd_Hands_point_63 : decode gb_Hands_point 63 = .ok (.getfield 41, 3) := by decide +kernel
theorem gd_Hands_point_66 : decode gb_Hands_point 66 = .ok (.invokevirtual 51, 3) := by decide +kernel
theorem gd_Hands_point_69 : decode gb_Hands_point 69 = .ok (.aload_n 0, 1) := by decide +kernel
theorem gd_Hands_point_70 : decode gb_Hands_point 70 = .ok (.getfield 31, 3) := by decide +kernel
theorem gd_Hands_point_73 : decode gb_Hands_point 73 = .ok (.aload_n 0, 1) := by decide +kernel
theorem gd_Hands_point_74 : decode gb_Hands_point 74 = .ok (.getfield 7, 3) := by decide +kernel
theorem gd_Hands_point_77 : decode gb_Hands_point 77 = .ok (.getfield 54, 3) := by decide +kernel
theorem gd_Hands_point_80 : decode gb_Hands_point 80 = .ok (.invokevirtual 57, 3) := by decide +kernel
theorem gd_Hands_point_83 : decode gb_Hands_point 83 = .ok (.aload_n 0, 1) := by decide +kernel
theorem gd_Hands_point_84 : decode gb_Hands_point 84 = .ok (.getfield 31, 3) := by decide +kernel
theorem gd_Hands_point_87 : decode gb_Hands_point 87 = .ok (.getfield 61, 3) := by decide +kernel
theorem gd_Hands_point_90 : decode gb_Hands_point 90 = .ok (.ifCond .ge 29, 3) := by decide +kernel
theorem gd_Hands_point_93 : decode gb_Hands_point 93 = .ok (.aload_n 0, 1) := by decide +kernel
theorem gd_Hands_point_94 : decode gb_Hands_point 94 = .ok (.getfield 31, 3) := by decide +kernel
theorem gd_Hands_point_97 : decode gb_Hands_point 97 = .ok (.iconst 1, 1) := by decide +kernel
theorem gd_Hands_point_98 : decode gb_Hands_point 98 = .ok (.putfield 61, 3) := by decide +kernel
theorem gd_Hands_point_101 : decode gb_Hands_point 101 = .ok (.aload_n 0, 1) := by decide +kernel
theorem gd_Hands_point_102 : decode gb_Hands_point 102 = .ok (.getfield 31, 3) := by decide +kernel
theorem gd_Hands_point_105 : decode gb_Hands_point 105 = .ok (.aload_n 0, 1) := by decide +kernel
theorem gd_Hands_point_106 : decode gb_Hands_point 106 = .ok (.getfield 20, 3) := by decide +kernel
theorem gd_Hands_point_109 : decode gb_Hands_point 109 = .ok (.getfield 41, 3) := by decide +kernel
theorem gd_Hands_point_112 : decode gb_Hands_point 112 = .ok (.aload_n 0, 1) := by decide +kernel
theorem gd_Hands_point_113 : decode gb_Hands_point 113 = .ok (.getfield 31, 3) := by decide +kernel
theorem gd_Hands_point_116 : decode gb_Hands_point 116 = .ok (.invokevirtual 65, 3) := by decide +kernel
theorem gd_Hands_point_119 : decode gb_Hands_point 119 = .ok (.aload_n 0, 1) := by decide +kernel
theorem gd_Hands_point_120 : decode gb_Hands_point 120 = .ok (.getfield 27, 3) := by decide +kernel
theorem gd_Hands_point_123 : decode gb_Hands_point 123 = .ok (.iload 4, 2) := by decide +kernel
theorem gd_Hands_point_125 : decode gb_Hands_point 125 = .ok (.i2l, 1) := by decide +kernel
theorem gd_Hands_point_126 : decode gb_Hands_point 126 = .ok (.invokevirtual 37, 3) := by decide +kernel
theorem gd_Hands_point_129 : decode gb_Hands_point 129 = .ok (.aload_n 0, 1) := by decide +kernel
theorem gd_Hands_point_130 : decode gb_Hands_point 130 = .ok (.getfield 20, 3) := by decide +kernel
theorem gd_Hands_point_133 : decode gb_Hands_point 133 = .ok (.getfield 48, 3) := by decide +kernel
theorem gd_Hands_point_136 : decode gb_Hands_point 136 = .ok (.aload_n 0, 1) := by decide +kernel
theorem gd_Hands_point_137 : decode gb_Hands_point 137 = .ok (.getfield 31, 3) := by decide +kernel
theorem gd_Hands_point_140 : decode gb_Hands_point 140 = .ok (.aload_n 0, 1) := by decide +kernel
theorem gd_Hands_point_141 : decode gb_Hands_point 141 = .ok (.getfield 27, 3) := by decide +kernel
theorem gd_Hands_point_144 : decode gb_Hands_point 144 = .ok (.invokevirtual 44, 3) := by decide +kernel
theorem gd_Hands_point_147 : decode gb_Hands_point 147 = .ok (.aload_n 0, 1) := by decide +kernel
theorem gd_Hands_point_148 : decode gb_Hands_point 148 = .ok (.getfield 7, 3) := by decide +kernel
theorem gd_Hands_point_151 : decode gb_Hands_point 151 = .ok (.aload_n 0, 1) := by decide +kernel
theorem gd_Hands_point_152 : decode gb_Hands_point 152 = .ok (.getfield 20, 3) := by decide +kernel
theorem gd_Hands_point_155 : decode gb_Hands_point 155 = .ok (.getfield 48, 3) := by decide +kernel
theorem gd_Hands_point_158 : decode gb_Hands_point 158 = .ok (.aload_n 0, 1) := by decide +kernel
theorem gd_Hands_point_159 : decode gb_Hands_point 159 = .ok (.getfield 20, 3) := by decide +kernel
theorem gd_Hands_point_162 : decode gb_Hands_point 162 = .ok (.getfield 41, 3) := by decide +kernel
theorem gd_Hands_point_165 : decode gb_Hands_point 165 = .ok (.invokevirtual 51, 3) := by decide +kernel
theorem gd_Hands_point_168 : decode gb_Hands_point 168 = .ok (.aload_n 0, 1) := by decide +kernel
theorem gd_Hands_point_169 : decode gb_Hands_point 169 = .ok (.getfield 20, 3) := by decide +kernel
theorem gd_Hands_point_172 : decode gb_Hands_point 172 = .ok (.getfield 48, 3) := by decide +kernel
theorem gd_Hands_point_175 : decode gb_Hands_point 175 = .ok (.aload_n 0, 1) := by decide +kernel
theorem gd_Hands_point_176 : decode gb_Hands_point 176 = .ok (.getfield 7, 3) := by decide +kernel
theorem gd_Hands_point_179 : decode gb_Hands_point 179 = .ok (.getfield 54, 3) := by decide +kernel
theorem gd_Hands_point_182 : decode gb_Hands_point 182 = .ok (.invokevirtual 57, 3) := by decide +kernel
theorem gd_Hands_point_185 : decode gb_Hands_point 185 = .ok (.aload_n 0, 1) := by decide +kernel
theorem gd_Hands_point_186 : decode gb_Hands_point 186 = .ok (.getfield 7, 3) := by decide +kernel
theorem gd_Hands_point_189 : decode gb_Hands_point 189 = .ok (.getfield 68, 3) := by decide +kernel
theorem gd_Hands_point_192 : decode gb_Hands_point 192 = .ok (.iconst 0, 1) := by decide +kernel
theorem gd_Hands_point_193 : decode gb_Hands_point 193 = .ok (.invokevirtual 71, 3) := by decide +kernel
theorem gd_Hands_point_196 : decode gb_Hands_point 196 = .ok (.istore 5, 2) := by decide +kernel
theorem gd_Hands_point_198 : decode gb_Hands_point 198 = .ok (.aload_n 0, 1) := by decide +kernel
theorem gd_Hands_point_199 : decode gb_Hands_point 199 = .ok (.getfield 7, 3) := by decide +kernel
theorem gd_Hands_point_202 : decode gb_Hands_point 202 = .ok (.aload_n 0, 1) := by decide +kernel
theorem gd_Hands_point_203 : decode gb_Hands_point 203 = .ok (.getfield 20, 3) := by decide +kernel
theorem gd_Hands_point_206 : decode gb_Hands_point 206 = .ok (.invokevirtual 75, 3) := by decide +kernel
theorem gd_Hands_point_209 : decode gb_Hands_point 209 = .ok (.iload 5, 2) := by decide +kernel
theorem gd_Hands_point_211 : decode gb_Hands_point 211 = .ok (.ireturn, 1) := by decide +kernel
def gf_Hands_point_b119 (F : Nat) (z : gw_Sh)  (u : gw_St) (t0 : Nat) (x4 : Int32) : Option (Int32 × gw_St) :=
  gf_nn (u.2.2 t0 2) fun q1 => (gf_Whole_setLong F z u q1 ((x4).toInt64)).bind fun u3 => gf_nn (u3.2.2 t0 1) fun q5 => gf_nn (u3.2.2 q5 0) fun q7 => gf_nn (u3.2.2 t0 3) fun q9 => gf_nn (u3.2.2 t0 2) fun q11 => (gf_Whole_setProduct F z u3 q7 q9 q11).bind fun u13 => gf_nn (u13.2.2 t0 0) fun q15 => gf_nn (u13.2.2 t0 1) fun q17 => gf_nn (u13.2.2 q17 0) fun q19 => gf_nn (u13.2.2 t0 1) fun q21 => gf_nn (u13.2.2 q21 1) fun q23 => (gf_Calculator_divide F z u13 q15 q19 q23).bind fun u25 => gf_nn (u25.2.2 t0 1) fun q27 => gf_nn (u25.2.2 q27 0) fun q29 => gf_nn (u25.2.2 t0 0) fun q31 => gf_nn (u25.2.2 q31 1) fun q33 => (gf_Whole_copyFrom F z u25 q29 q33).bind fun u35 => gf_nn (u35.2.2 t0 0) fun q37 => gf_nn (u35.2.2 q37 0) fun q39 => gf_cl (gf_Whole_word F z u35 q39 (0 : Int32)) fun a43 u41 => gf_nn (u41.2.2 t0 0) fun q44 => gf_nn (u41.2.2 t0 1) fun q46 => (gf_Calculator_reduce F z u41 q44 q46).bind fun u48 => some (a43, u48)
def gf_Hands_point_b0 (F : Nat) (z : gw_Sh)  (u : gw_St) (t0 : Nat) (t1 : Nat) (x2 : Int32) (x3 : Int32) (x4 : Int32) : Option (Int32 × gw_St) :=
  gf_nn (u.2.2 t0 2) fun q50 => (gf_Whole_setLong F z u q50 ((x3).toInt64)).bind fun u52 => gf_nn (u52.2.2 t0 1) fun q54 => gf_nn (u52.2.2 q54 1) fun q56 => gf_nn (u52.2.2 t1 1) fun q58 => gf_nn (u52.2.2 t0 2) fun q60 => (gf_Whole_setProduct F z u52 q56 q58 q60).bind fun u62 => gf_nn (u62.2.2 t0 2) fun q64 => (gf_Whole_setLong F z u62 q64 ((x2).toInt64)).bind fun u66 => gf_nn (u66.2.2 t0 3) fun q68 => gf_nn (u66.2.2 t1 0) fun q70 => gf_nn (u66.2.2 t0 2) fun q72 => (gf_Whole_setProduct F z u66 q68 q70 q72).bind fun u74 => gf_nn (u74.2.2 t0 0) fun q76 => gf_nn (u74.2.2 t0 3) fun q78 => gf_nn (u74.2.2 t0 1) fun q80 => gf_nn (u74.2.2 q80 1) fun q82 => (gf_Calculator_divide F z u74 q76 q78 q82).bind fun u84 => gf_nn (u84.2.2 t0 3) fun q86 => gf_nn (u84.2.2 t0 0) fun q88 => gf_nn (u84.2.2 q88 1) fun q90 => (gf_Whole_copyFrom F z u84 q86 q90).bind fun u92 => gf_nn (u92.2.2 t0 3) fun q94 => if 0 ≤ (u92.1 q94 2) then (gf_Hands_point_b119 F z  u92 t0 x4) else (gf_nn (u92.2.2 t0 3) fun q97 => gf_nm (gw_wi u92 q97 2 (1 : Int32)) fun u99 => gf_nn (u99.2.2 t0 3) fun q101 => gf_nn (u99.2.2 t0 1) fun q103 => gf_nn (u99.2.2 q103 1) fun q105 => gf_nn (u99.2.2 t0 3) fun q107 => (gf_Whole_setDifference F z u99 q101 q105 q107).bind fun u109 => gf_Hands_point_b119 F z  u109 t0 x4)
def gf_Hands_point (F : Nat) (z : gw_Sh) (u : gw_St) (t0 : Nat) (t1 : Nat) (x2 : Int32) (x3 : Int32) (x4 : Int32) : Option (Int32 × gw_St) := gf_Hands_point_b0 F z  u t0 t1 x2 x3 x4
set_option maxHeartbeats 4000000 in
set_option maxRecDepth 20000 in
theorem gx_Hands_point_b119 {p : Program} {l : Launch} {e : Env} {s : State} {m : MethodId} {args : Array Value} {below : List Frame} {meth : Method} {c : Code} {D : va_G} {cA : Nat → ClassId} {hs : Nat → Nat} {z : gw_Sh} (F : Nat) {r0 : (Int32 × gw_St)} (C : gw_Cx p s m args c gb_Hands_point 6 R_Hands D cA) (hr : meth.sig.returnType = (some .int)) (hk : meth.locks = false) (u : gw_St) (t0 : Nat) (x4 : Int32) (o_t0 : gw_ok z t0 5) {H : Heap} {locs : List Loc} {ls : Array Slot} (hW : gw_Wx D cA hs z s u H locs) (hl : lv_has ls 6 [(0, .ref (hs t0)), (4, .int x4)]) (h : gf_Hands_point_b119 F z   u t0 x4 = some r0) : gw_Gi p l e gr_Hands_point s m args below meth c D cA hs z r0 H locs ls 119 [] := by
  obtain ⟨hx, hb, hml, hown, hts, hK⟩ := id C
  unfold gf_Hands_point_b119 at h
  refine lv_aload_n hx hb gd_Hands_point_119 rfl (lv_at hl 0 rfl) ?_
  obtain ⟨q1, e2, h⟩ := gf_nn_ok h
  refine gw_getr (k := 2) (ty := 8) (ref := R_Hands) C hW o_t0 (by decide) rfl gi_Hands rfl (by decide) rfl rfl gk_325 gd_Hands_point_120 e2 ?_
  have o_q1 := hW.ref (d := 8) o_t0 e2 rfl
  refine lv_iload hx hb gd_Hands_point_123 (lv_at hl 1 rfl) ?_
  refine lv_i2l hx hb gd_Hands_point_125 rfl ?_
  obtain ⟨u3, d4, h⟩ := gf_bd_ok h
  refine gw_callVv (K := R_Whole) (As := [.long ((x4).toInt64)]) (rest := []) C hW (fun _ h => Or.inr h) hl.1 gm_Whole_setLong (gc_Whole_setLong l F o_q1 d4 _) gk_326 gk_71 gk_72 o_q1 (by decide) rfl rfl rfl ⟨Nat.le_of_ble_eq_true rfl, Nat.le_of_ble_eq_true rfl⟩ ⟨Nat.zero_le _, Nat.zero_le _⟩ rfl rfl (Nat.le_of_ble_eq_true rfl) gd_Hands_point_126 (fun H locs hW => ?_)
  refine lv_aload_n hx hb gd_Hands_point_129 rfl (lv_at hl 0 rfl) ?_
  obtain ⟨q5, e6, h⟩ := gf_nn_ok h
  refine gw_getr (k := 1) (ty := 6) (ref := R_Hands) C hW o_t0 (by decide) rfl gi_Hands rfl (by decide) rfl rfl gk_327 gd_Hands_point_130 e6 ?_
  have o_q5 := hW.ref (d := 6) o_t0 e6 rfl
  obtain ⟨q7, e8, h⟩ := gf_nn_ok h
  refine gw_getr (k := 0) (ty := 8) (ref := R_Fraction) C hW o_q5 (by decide) rfl gi_Fraction rfl (by decide) rfl rfl gk_328 gd_Hands_point_133 e8 ?_
  have o_q7 := hW.ref (d := 8) o_q5 e8 rfl
  refine lv_aload_n hx hb gd_Hands_point_136 rfl (lv_at hl 0 rfl) ?_
  obtain ⟨q9, e10, h⟩ := gf_nn_ok h
  refine gw_getr (k := 3) (ty := 8) (ref := R_Hands) C hW o_t0 (by decide) rfl gi_Hands rfl (by decide) rfl rfl gk_329 gd_Hands_point_137 e10 ?_
  have o_q9 := hW.ref (d := 8) o_t0 e10 rfl
  refine lv_aload_n hx hb gd_Hands_point_140 rfl (lv_at hl 0 rfl) ?_
  obtain ⟨q11, e12, h⟩ := gf_nn_ok h
  refine gw_getr (k := 2) (ty := 8) (ref := R_Hands) C hW o_t0 (by decide) rfl gi_Hands rfl (by decide) rfl rfl gk_325 gd_Hands_point_141 e12 ?_
  have o_q11 := hW.ref (d := 8) o_t0 e12 rfl
  obtain ⟨u13, d14, h⟩ := gf_bd_ok h
  refine gw_callVv (K := R_Whole) (As := [.ref (hs q9), .ref (hs q11)]) (rest := []) C hW (fun _ h => Or.inr h) hl.1 gm_Whole_setProduct (gc_Whole_setProduct l F o_q7 o_q9 o_q11 d14 _) gk_330 gk_262 gk_263 o_q7 (by decide) rfl rfl rfl ⟨Nat.le_of_ble_eq_true rfl, Nat.le_of_ble_eq_true rfl⟩ ⟨Nat.zero_le _, Nat.zero_le _⟩ rfl rfl (Nat.le_of_ble_eq_true rfl) gd_Hands_point_144 (fun H locs hW => ?_)
  refine lv_aload_n hx hb gd_Hands_point_147 rfl (lv_at hl 0 rfl) ?_
  obtain ⟨q15, e16, h⟩ := gf_nn_ok h
  refine gw_getr (k := 0) (ty := 7) (ref := R_Hands) C hW o_t0 (by decide) rfl gi_Hands rfl (by decide) rfl rfl gk_331 gd_Hands_point_148 e16 ?_
  have o_q15 := hW.ref (d := 7) o_t0 e16 rfl
  refine lv_aload_n hx hb gd_Hands_point_151 rfl (lv_at hl 0 rfl) ?_
  obtain ⟨q17, e18, h⟩ := gf_nn_ok h
  refine gw_getr (k := 1) (ty := 6) (ref := R_Hands) C hW o_t0 (by decide) rfl gi_Hands rfl (by decide) rfl rfl gk_327 gd_Hands_point_152 e18 ?_
  have o_q17 := hW.ref (d := 6) o_t0 e18 rfl
  obtain ⟨q19, e20, h⟩ := gf_nn_ok h
  refine gw_getr (k := 0) (ty := 8) (ref := R_Fraction) C hW o_q17 (by decide) rfl gi_Fraction rfl (by decide) rfl rfl gk_328 gd_Hands_point_155 e20 ?_
  have o_q19 := hW.ref (d := 8) o_q17 e20 rfl
  refine lv_aload_n hx hb gd_Hands_point_158 rfl (lv_at hl 0 rfl) ?_
  obtain ⟨q21, e22, h⟩ := gf_nn_ok h
  refine gw_getr (k := 1) (ty := 6) (ref := R_Hands) C hW o_t0 (by decide) rfl gi_Hands rfl (by decide) rfl rfl gk_327 gd_Hands_point_159 e22 ?_
  have o_q21 := hW.ref (d := 6) o_t0 e22 rfl
  obtain ⟨q23, e24, h⟩ := gf_nn_ok h
  refine gw_getr (k := 1) (ty := 8) (ref := R_Fraction) C hW o_q21 (by decide) rfl gi_Fraction rfl (by decide) rfl rfl gk_332 gd_Hands_point_162 e24 ?_
  have o_q23 := hW.ref (d := 8) o_q21 e24 rfl
  obtain ⟨u25, d26, h⟩ := gf_bd_ok h
  refine gw_callVv (K := R_Calculator) (As := [.ref (hs q19), .ref (hs q23)]) (rest := []) C hW (fun _ h => Or.inr h) hl.1 gm_Calculator_divide (gc_Calculator_divide l F o_q15 o_q19 o_q23 d26 _) gk_333 gk_98 gk_99 o_q15 (by decide) rfl rfl rfl ⟨Nat.le_of_ble_eq_true rfl, Nat.le_of_ble_eq_true rfl⟩ ⟨Nat.zero_le _, Nat.zero_le _⟩ rfl rfl (Nat.le_of_ble_eq_true rfl) gd_Hands_point_165 (fun H locs hW => ?_)
  refine lv_aload_n hx hb gd_Hands_point_168 rfl (lv_at hl 0 rfl) ?_
  obtain ⟨q27, e28, h⟩ := gf_nn_ok h
  refine gw_getr (k := 1) (ty := 6) (ref := R_Hands) C hW o_t0 (by decide) rfl gi_Hands rfl (by decide) rfl rfl gk_327 gd_Hands_point_169 e28 ?_
  have o_q27 := hW.ref (d := 6) o_t0 e28 rfl
  obtain ⟨q29, e30, h⟩ := gf_nn_ok h
  refine gw_getr (k := 0) (ty := 8) (ref := R_Fraction) C hW o_q27 (by decide) rfl gi_Fraction rfl (by decide) rfl rfl gk_328 gd_Hands_point_172 e30 ?_
  have o_q29 := hW.ref (d := 8) o_q27 e30 rfl
  refine lv_aload_n hx hb gd_Hands_point_175 rfl (lv_at hl 0 rfl) ?_
  obtain ⟨q31, e32, h⟩ := gf_nn_ok h
  refine gw_getr (k := 0) (ty := 7) (ref := R_Hands) C hW o_t0 (by decide) rfl gi_Hands rfl (by decide) rfl rfl gk_331 gd_Hands_point_176 e32 ?_
  have o_q31 := hW.ref (d := 7) o_t0 e32 rfl
  obtain ⟨q33, e34, h⟩ := gf_nn_ok h
  refine gw_getr (k := 1) (ty := 8) (ref := R_Calculator) C hW o_q31 (by decide) rfl gi_Calculator rfl (by decide) rfl rfl gk_334 gd_Hands_point_179 e34 ?_
  have o_q33 := hW.ref (d := 8) o_q31 e34 rfl
  obtain ⟨u35, d36, h⟩ := gf_bd_ok h
  refine gw_callVv (K := R_Whole) (As := [.ref (hs q33)]) (rest := []) C hW (fun _ h => Or.inr h) hl.1 gm_Whole_copyFrom (gc_Whole_copyFrom l F o_q29 o_q33 d36 _) gk_335 gk_62 gk_63 o_q29 (by decide) rfl rfl rfl ⟨Nat.le_of_ble_eq_true rfl, Nat.le_of_ble_eq_true rfl⟩ ⟨Nat.zero_le _, Nat.zero_le _⟩ rfl rfl (Nat.le_of_ble_eq_true rfl) gd_Hands_point_182 (fun H locs hW => ?_)
  refine lv_aload_n hx hb gd_Hands_point_185 rfl (lv_at hl 0 rfl) ?_
  obtain ⟨q37, e38, h⟩ := gf_nn_ok h
  refine gw_getr (k := 0) (ty := 7) (ref := R_Hands) C hW o_t0 (by decide) rfl gi_Hands rfl (by decide) rfl rfl gk_331 gd_Hands_point_186 e38 ?_
  have o_q37 := hW.ref (d := 7) o_t0 e38 rfl
  obtain ⟨q39, e40, h⟩ := gf_nn_ok h
  refine gw_getr (k := 0) (ty := 8) (ref := R_Calculator) C hW o_q37 (by decide) rfl gi_Calculator rfl (by decide) rfl rfl gk_336 gd_Hands_point_189 e40 ?_
  have o_q39 := hW.ref (d := 8) o_q37 e40 rfl
  refine lv_iconst (v := 0) hx hb gd_Hands_point_192 (by decide) ?_
  obtain ⟨a43, u41, d42, h⟩ := gf_cl_ok h
  refine gw_callVi (K := R_Whole) (As := [.int (0 : Int32)]) (rest := []) C hW (fun _ h => Or.inr h) hl.1 gm_Whole_word (gc_Whole_word l F o_q39 d42 _) gk_337 gk_338 gk_339 o_q39 (by decide) rfl rfl rfl ⟨Nat.le_of_ble_eq_true rfl, Nat.le_of_ble_eq_true rfl⟩ ⟨Nat.zero_le _, Nat.zero_le _⟩ rfl rfl (Nat.le_of_ble_eq_true rfl) gd_Hands_point_193 (fun H locs hW => ?_)
  refine lv_istore (lv' := [(5, .int a43), (0, .ref (hs t0)), (4, .int x4)]) hx hb gd_Hands_point_196 hl (by decide) rfl (fun ls hl => ?_)
  refine lv_aload_n hx hb gd_Hands_point_198 rfl (lv_at hl 1 rfl) ?_
  obtain ⟨q44, e45, h⟩ := gf_nn_ok h
  refine gw_getr (k := 0) (ty := 7) (ref := R_Hands) C hW o_t0 (by decide) rfl gi_Hands rfl (by decide) rfl rfl gk_331 gd_Hands_point_199 e45 ?_
  have o_q44 := hW.ref (d := 7) o_t0 e45 rfl
  refine lv_aload_n hx hb gd_Hands_point_202 rfl (lv_at hl 1 rfl) ?_
  obtain ⟨q46, e47, h⟩ := gf_nn_ok h
  refine gw_getr (k := 1) (ty := 6) (ref := R_Hands) C hW o_t0 (by decide) rfl gi_Hands rfl (by decide) rfl rfl gk_327 gd_Hands_point_203 e47 ?_
  have o_q46 := hW.ref (d := 6) o_t0 e47 rfl
  obtain ⟨u48, d49, h⟩ := gf_bd_ok h
  refine gw_callVv (K := R_Calculator) (As := [.ref (hs q46)]) (rest := []) C hW (fun _ h => Or.inr h) hl.1 gm_Calculator_reduce (gc_Calculator_reduce l F o_q44 o_q46 d49 _) gk_340 gk_304 gk_305 o_q44 (by decide) rfl rfl rfl ⟨Nat.le_of_ble_eq_true rfl, Nat.le_of_ble_eq_true rfl⟩ ⟨Nat.zero_le _, Nat.zero_le _⟩ rfl rfl (Nat.le_of_ble_eq_true rfl) gd_Hands_point_206 (fun H locs hW => ?_)
  refine lv_iload hx hb gd_Hands_point_209 (lv_at hl 0 rfl) ?_
  obtain rfl := Option.some.inj h
  exact gw_iret C hW hr hk gd_Hands_point_211

set_option maxHeartbeats 4000000 in
set_option maxRecDepth 20000 in
theorem gx_Hands_point_b0 {p : Program} {l : Launch} {e : Env} {s : State} {m : MethodId} {args : Array Value} {below : List Frame} {meth : Method} {c : Code} {D : va_G} {cA : Nat → ClassId} {hs : Nat → Nat} {z : gw_Sh} (F : Nat) {r0 : (Int32 × gw_St)} (C : gw_Cx p s m args c gb_Hands_point 6 R_Hands D cA) (hr : meth.sig.returnType = (some .int)) (hk : meth.locks = false) (u : gw_St) (t0 : Nat) (t1 : Nat) (x2 : Int32) (x3 : Int32) (x4 : Int32) (o_t0 : gw_ok z t0 5) (o_t1 : gw_ok z t1 6) {H : Heap} {locs : List Loc} {ls : Array Slot} (hW : gw_Wx D cA hs z s u H locs) (hl : lv_has ls 6 [(0, .ref (hs t0)), (1, .ref (hs t1)), (2, .int x2), (3, .int x3), (4, .int x4)]) (h : gf_Hands_point_b0 F z   u t0 t1 x2 x3 x4 = some r0) : gw_Gi p l e gr_Hands_point s m args below meth c D cA hs z r0 H locs ls 0 [] := by
  obtain ⟨hx, hb, hml, hown, hts, hK⟩ := id C
  unfold gf_Hands_point_b0 at h
  refine lv_aload_n hx hb gd_Hands_point_0 rfl (lv_at hl 0 rfl) ?_
  obtain ⟨q50, e51, h⟩ := gf_nn_ok h
  refine gw_getr (k := 2) (ty := 8) (ref := R_Hands) C hW o_t0 (by decide) rfl gi_Hands rfl (by decide) rfl rfl gk_325 gd_Hands_point_1 e51 ?_
  have o_q50 := hW.ref (d := 8) o_t0 e51 rfl
  refine lv_iload_n hx hb gd_Hands_point_4 rfl (lv_at hl 3 rfl) ?_
  refine lv_i2l hx hb gd_Hands_point_5 rfl ?_
  obtain ⟨u52, d53, h⟩ := gf_bd_ok h
  refine gw_callVv (K := R_Whole) (As := [.long ((x3).toInt64)]) (rest := []) C hW (fun _ h => Or.inr h) hl.1 gm_Whole_setLong (gc_Whole_setLong l F o_q50 d53 _) gk_326 gk_71 gk_72 o_q50 (by decide) rfl rfl rfl ⟨Nat.le_of_ble_eq_true rfl, Nat.le_of_ble_eq_true rfl⟩ ⟨Nat.zero_le _, Nat.zero_le _⟩ rfl rfl (Nat.le_of_ble_eq_true rfl) gd_Hands_point_6 (fun H locs hW => ?_)
  refine lv_aload_n hx hb gd_Hands_point_9 rfl (lv_at hl 0 rfl) ?_
  obtain ⟨q54, e55, h⟩ := gf_nn_ok h
  refine gw_getr (k := 1) (ty := 6) (ref := R_Hands) C hW o_t0 (by decide) rfl gi_Hands rfl (by decide) rfl rfl gk_327 gd_Hands_point_10 e55 ?_
  have o_q54 := hW.ref (d := 6) o_t0 e55 rfl
  obtain ⟨q56, e57, h⟩ := gf_nn_ok h
  refine gw_getr (k := 1) (ty := 8) (ref := R_Fraction) C hW o_q54 (by decide) rfl gi_Fraction rfl (by decide) rfl rfl gk_332 gd_Hands_point_13 e57 ?_
  have o_q56 := hW.ref (d := 8) o_q54 e57 rfl
  refine lv_aload_n hx hb gd_Hands_point_16 rfl (lv_at hl 1 rfl) ?_
  obtain ⟨q58, e59, h⟩ := gf_nn_ok h
  refine gw_getr (k := 1) (ty := 8) (ref := R_Fraction) C hW o_t1 (by decide) rfl gi_Fraction rfl (by decide) rfl rfl gk_332 gd_Hands_point_17 e59 ?_
  have o_q58 := hW.ref (d := 8) o_t1 e59 rfl
  refine lv_aload_n hx hb gd_Hands_point_20 rfl (lv_at hl 0 rfl) ?_
  obtain ⟨q60, e61, h⟩ := gf_nn_ok h
  refine gw_getr (k := 2) (ty := 8) (ref := R_Hands) C hW o_t0 (by decide) rfl gi_Hands rfl (by decide) rfl rfl gk_325 gd_Hands_point_21 e61 ?_
  have o_q60 := hW.ref (d := 8) o_t0 e61 rfl
  obtain ⟨u62, d63, h⟩ := gf_bd_ok h
  refine gw_callVv (K := R_Whole) (As := [.ref (hs q58), .ref (hs q60)]) (rest := []) C hW (fun _ h => Or.inr h) hl.1 gm_Whole_setProduct (gc_Whole_setProduct l F o_q56 o_q58 o_q60 d63 _) gk_330 gk_262 gk_263 o_q56 (by decide) rfl rfl rfl ⟨Nat.le_of_ble_eq_true rfl, Nat.le_of_ble_eq_true rfl⟩ ⟨Nat.zero_le _, Nat.zero_le _⟩ rfl rfl (Nat.le_of_ble_eq_true rfl) gd_Hands_point_24 (fun H locs hW => ?_)
  refine lv_aload_n hx hb gd_Hands_point_27 rfl (lv_at hl 0 rfl) ?_
  obtain ⟨q64, e65, h⟩ := gf_nn_ok h
  refine gw_getr (k := 2) (ty := 8) (ref := R_Hands) C hW o_t0 (by decide) rfl gi_Hands rfl (by decide) rfl rfl gk_325 gd_Hands_point_28 e65 ?_
  have o_q64 := hW.ref (d := 8) o_t0 e65 rfl
  refine lv_iload_n hx hb gd_Hands_point_31 rfl (lv_at hl 2 rfl) ?_
  refine lv_i2l hx hb gd_Hands_point_32 rfl ?_
  obtain ⟨u66, d67, h⟩ := gf_bd_ok h
  refine gw_callVv (K := R_Whole) (As := [.long ((x2).toInt64)]) (rest := []) C hW (fun _ h => Or.inr h) hl.1 gm_Whole_setLong (gc_Whole_setLong l F o_q64 d67 _) gk_326 gk_71 gk_72 o_q64 (by decide) rfl rfl rfl ⟨Nat.le_of_ble_eq_true rfl, Nat.le_of_ble_eq_true rfl⟩ ⟨Nat.zero_le _, Nat.zero_le _⟩ rfl rfl (Nat.le_of_ble_eq_true rfl) gd_Hands_point_33 (fun H locs hW => ?_)
  refine lv_aload_n hx hb gd_Hands_point_36 rfl (lv_at hl 0 rfl) ?_
  obtain ⟨q68, e69, h⟩ := gf_nn_ok h
  refine gw_getr (k := 3) (ty := 8) (ref := R_Hands) C hW o_t0 (by decide) rfl gi_Hands rfl (by decide) rfl rfl gk_329 gd_Hands_point_37 e69 ?_
  have o_q68 := hW.ref (d := 8) o_t0 e69 rfl
  refine lv_aload_n hx hb gd_Hands_point_40 rfl (lv_at hl 1 rfl) ?_
  obtain ⟨q70, e71, h⟩ := gf_nn_ok h
  refine gw_getr (k := 0) (ty := 8) (ref := R_Fraction) C hW o_t1 (by decide) rfl gi_Fraction rfl (by decide) rfl rfl gk_328 gd_Hands_point_41 e71 ?_
  have o_q70 := hW.ref (d := 8) o_t1 e71 rfl
  refine lv_aload_n hx hb gd_Hands_point_44 rfl (lv_at hl 0 rfl) ?_
  obtain ⟨q72, e73, h⟩ := gf_nn_ok h
  refine gw_getr (k := 2) (ty := 8) (ref := R_Hands) C hW o_t0 (by decide) rfl gi_Hands rfl (by decide) rfl rfl gk_325 gd_Hands_point_45 e73 ?_
  have o_q72 := hW.ref (d := 8) o_t0 e73 rfl
  obtain ⟨u74, d75, h⟩ := gf_bd_ok h
  refine gw_callVv (K := R_Whole) (As := [.ref (hs q70), .ref (hs q72)]) (rest := []) C hW (fun _ h => Or.inr h) hl.1 gm_Whole_setProduct (gc_Whole_setProduct l F o_q68 o_q70 o_q72 d75 _) gk_330 gk_262 gk_263 o_q68 (by decide) rfl rfl rfl ⟨Nat.le_of_ble_eq_true rfl, Nat.le_of_ble_eq_true rfl⟩ ⟨Nat.zero_le _, Nat.zero_le _⟩ rfl rfl (Nat.le_of_ble_eq_true rfl) gd_Hands_point_48 (fun H locs hW => ?_)
  refine lv_aload_n hx hb gd_Hands_point_51 rfl (lv_at hl 0 rfl) ?_
  obtain ⟨q76, e77, h⟩ := gf_nn_ok h
  refine gw_getr (k := 0) (ty := 7) (ref := R_Hands) C hW o_t0 (by decide) rfl gi_Hands rfl (by decide) rfl rfl gk_331 gd_Hands_point_52 e77 ?_
  have o_q76 := hW.ref (d := 7) o_t0 e77 rfl
  refine lv_aload_n hx hb gd_Hands_point_55 rfl (lv_at hl 0 rfl) ?_
  obtain ⟨q78, e79, h⟩ := gf_nn_ok h
  refine gw_getr (k := 3) (ty := 8) (ref := R_Hands) C hW o_t0 (by decide) rfl gi_Hands rfl (by decide) rfl rfl gk_329 gd_Hands_point_56 e79 ?_
  have o_q78 := hW.ref (d := 8) o_t0 e79 rfl
  refine lv_aload_n hx hb gd_Hands_point_59 rfl (lv_at hl 0 rfl) ?_
  obtain ⟨q80, e81, h⟩ := gf_nn_ok h
  refine gw_getr (k := 1) (ty := 6) (ref := R_Hands) C hW o_t0 (by decide) rfl gi_Hands rfl (by decide) rfl rfl gk_327 gd_Hands_point_60 e81 ?_
  have o_q80 := hW.ref (d := 6) o_t0 e81 rfl
  obtain ⟨q82, e83, h⟩ := gf_nn_ok h
  refine gw_getr (k := 1) (ty := 8) (ref := R_Fraction) C hW o_q80 (by decide) rfl gi_Fraction rfl (by decide) rfl rfl gk_332 gd_Hands_point_63 e83 ?_
  have o_q82 := hW.ref (d := 8) o_q80 e83 rfl
  obtain ⟨u84, d85, h⟩ := gf_bd_ok h
  refine gw_callVv (K := R_Calculator) (As := [.ref (hs q78), .ref (hs q82)]) (rest := []) C hW (fun _ h => Or.inr h) hl.1 gm_Calculator_divide (gc_Calculator_divide l F o_q76 o_q78 o_q82 d85 _) gk_333 gk_98 gk_99 o_q76 (by decide) rfl rfl rfl ⟨Nat.le_of_ble_eq_true rfl, Nat.le_of_ble_eq_true rfl⟩ ⟨Nat.zero_le _, Nat.zero_le _⟩ rfl rfl (Nat.le_of_ble_eq_true rfl) gd_Hands_point_66 (fun H locs hW => ?_)
  refine lv_aload_n hx hb gd_Hands_point_69 rfl (lv_at hl 0 rfl) ?_
  obtain ⟨q86, e87, h⟩ := gf_nn_ok h
  refine gw_getr (k := 3) (ty := 8) (ref := R_Hands) C hW o_t0 (by decide) rfl gi_Hands rfl (by decide) rfl rfl gk_329 gd_Hands_point_70 e87 ?_
  have o_q86 := hW.ref (d := 8) o_t0 e87 rfl
  refine lv_aload_n hx hb gd_Hands_point_73 rfl (lv_at hl 0 rfl) ?_
  obtain ⟨q88, e89, h⟩ := gf_nn_ok h
  refine gw_getr (k := 0) (ty := 7) (ref := R_Hands) C hW o_t0 (by decide) rfl gi_Hands rfl (by decide) rfl rfl gk_331 gd_Hands_point_74 e89 ?_
  have o_q88 := hW.ref (d := 7) o_t0 e89 rfl
  obtain ⟨q90, e91, h⟩ := gf_nn_ok h
  refine gw_getr (k := 1) (ty := 8) (ref := R_Calculator) C hW o_q88 (by decide) rfl gi_Calculator rfl (by decide) rfl rfl gk_334 gd_Hands_point_77 e91 ?_
  have o_q90 := hW.ref (d := 8) o_q88 e91 rfl
  obtain ⟨u92, d93, h⟩ := gf_bd_ok h
  refine gw_callVv (K := R_Whole) (As := [.ref (hs q90)]) (rest := []) C hW (fun _ h => Or.inr h) hl.1 gm_Whole_copyFrom (gc_Whole_copyFrom l F o_q86 o_q90 d93 _) gk_335 gk_62 gk_63 o_q86 (by decide) rfl rfl rfl ⟨Nat.le_of_ble_eq_true rfl, Nat.le_of_ble_eq_true rfl⟩ ⟨Nat.zero_le _, Nat.zero_le _⟩ rfl rfl (Nat.le_of_ble_eq_true rfl) gd_Hands_point_80 (fun H locs hW => ?_)
  refine lv_aload_n hx hb gd_Hands_point_83 rfl (lv_at hl 0 rfl) ?_
  obtain ⟨q94, e95, h⟩ := gf_nn_ok h
  refine gw_getr (k := 3) (ty := 8) (ref := R_Hands) C hW o_t0 (by decide) rfl gi_Hands rfl (by decide) rfl rfl gk_329 gd_Hands_point_84 e95 ?_
  have o_q94 := hW.ref (d := 8) o_t0 e95 rfl
  refine gw_geti (k := 2) (ref := R_Whole) C hW o_q94 (by decide) rfl gi_Whole rfl (by decide) rfl rfl gk_341 gd_Hands_point_87 ?_
  refine lv_if_ge (tgt := 119) hx hb gd_Hands_point_90 (by decide) (fun c96 => ?_) (fun c96 => ?_)
  · have h := gf_t c96 h
    exact gx_Hands_point_b119 F C hr hk  u92 t0 x4 o_t0 hW (lv_sub hl [0, 4] rfl) h
  · have h := gf_f c96 h
    refine lv_aload_n hx hb gd_Hands_point_93 rfl (lv_at hl 0 rfl) ?_
    obtain ⟨q97, e98, h⟩ := gf_nn_ok h
    refine gw_getr (k := 3) (ty := 8) (ref := R_Hands) C hW o_t0 (by decide) rfl gi_Hands rfl (by decide) rfl rfl gk_329 gd_Hands_point_94 e98 ?_
    have o_q97 := hW.ref (d := 8) o_t0 e98 rfl
    refine lv_iconst (v := 1) hx hb gd_Hands_point_97 (by decide) ?_
    refine gw_puti (k := 2) (ref := R_Whole) (fty := .int) C hW o_q97 (by decide) rfl gi_Whole rfl (by decide) rfl rfl gk_341 tf_Whole tf_Whole_ok nm_Whole rfl rfl rfl rfl gd_Hands_point_98 (fun u99 H locs e100 hW => ?_)
    have h := gf_nm_ok e100 h
    refine lv_aload_n hx hb gd_Hands_point_101 rfl (lv_at hl 0 rfl) ?_
    obtain ⟨q101, e102, h⟩ := gf_nn_ok h
    refine gw_getr (k := 3) (ty := 8) (ref := R_Hands) C hW o_t0 (by decide) rfl gi_Hands rfl (by decide) rfl rfl gk_329 gd_Hands_point_102 e102 ?_
    have o_q101 := hW.ref (d := 8) o_t0 e102 rfl
    refine lv_aload_n hx hb gd_Hands_point_105 rfl (lv_at hl 0 rfl) ?_
    obtain ⟨q103, e104, h⟩ := gf_nn_ok h
    refine gw_getr (k := 1) (ty := 6) (ref := R_Hands) C hW o_t0 (by decide) rfl gi_Hands rfl (by decide) rfl rfl gk_327 gd_Hands_point_106 e104 ?_
    have o_q103 := hW.ref (d := 6) o_t0 e104 rfl
    obtain ⟨q105, e106, h⟩ := gf_nn_ok h
    refine gw_getr (k := 1) (ty := 8) (ref := R_Fraction) C hW o_q103 (by decide) rfl gi_Fraction rfl (by decide) rfl rfl gk_332 gd_Hands_point_109 e106 ?_
    have o_q105 := hW.ref (d := 8) o_q103 e106 rfl
    refine lv_aload_n hx hb gd_Hands_point_112 rfl (lv_at hl 0 rfl) ?_
    obtain ⟨q107, e108, h⟩ := gf_nn_ok h
    refine gw_getr (k := 3) (ty := 8) (ref := R_Hands) C hW o_t0 (by decide) rfl gi_Hands rfl (by decide) rfl rfl gk_329 gd_Hands_point_113 e108 ?_
    have o_q107 := hW.ref (d := 8) o_t0 e108 rfl
    obtain ⟨u109, d110, h⟩ := gf_bd_ok h
    refine gw_callVv (K := R_Whole) (As := [.ref (hs q105), .ref (hs q107)]) (rest := []) C hW (fun _ h => Or.inr h) hl.1 gm_Whole_setDifference (gc_Whole_setDifference l F o_q101 o_q105 o_q107 d110 _) gk_342 gk_265 gk_266 o_q101 (by decide) rfl rfl rfl ⟨Nat.le_of_ble_eq_true rfl, Nat.le_of_ble_eq_true rfl⟩ ⟨Nat.zero_le _, Nat.zero_le _⟩ rfl rfl (Nat.le_of_ble_eq_true rfl) gd_Hands_point_116 (fun H locs hW => ?_)
    exact gx_Hands_point_b119 F C hr hk  u109 t0 x4 o_t0 hW (lv_sub hl [0, 4] rfl) h

set_option maxRecDepth 20000 in
theorem gc_Hands_point (l : Launch) {D : va_G} {cA : Nat → ClassId} {hs : Nat → Nat} {z : gw_Sh} (F : Nat) {u : gw_St} {r0 : (Int32 × gw_St)} {t0 : Nat} {t1 : Nat} {x2 : Int32} {x3 : Int32} {x4 : Int32} (o_t0 : gw_ok z t0 5) (o_t1 : gw_ok z t1 6) (h : gf_Hands_point F z u t0 t1 x2 x3 x4 = some r0) (sz : Nat) : gw_Mi l gy_Hands_point gb_Hands_point 6 (some .int) gr_Hands_point [.ref (hs t0), .ref (hs t1), .int x2, .int x3, .int x4] D cA hs z u sz r0 := by
  refine gw_enter (by decide) (Nat.le_of_ble_eq_true rfl) ?_
  intro p e s m below meth c ls hsz C hW hr hk _ hl
  subst hsz
  exact gx_Hands_point_b0 F C hr hk u t0 t1 x2 x3 x4 o_t0 o_t1 hW (lv_sub hl [0, 1, 2, 3, 4] rfl) h
-- GearDesk$Hands.turnsToMeet(LGearDesk$Fraction;LGearDesk$Fraction;)Z
def gy_Hands_turnsToMeet : MethodName := ⟨R_Hands, "turnsToMeet", "(LGearDesk$Fraction;LGearDesk$Fraction;)Z"⟩
abbrev gb_Hands_turnsToMeet : ByteArray := prog_5_method_3_code
theorem gk_345 : Cond.code gy_Hands_turnsToMeet gb_Hands_turnsToMeet 3 (some .boolean) ∈ gt_T := gt_m6 (List.mem_of_getElem? (i := 10) rfl) rfl
def gr_Hands_turnsToMeet : Room := gw_rm 6 184
theorem gm_Hands_turnsToMeet : gw_Mth gy_Hands_turnsToMeet gb_Hands_turnsToMeet 3 (some .boolean) 2 := ⟨gk_345, gk_343, ⟨by decide +kernel, by decide +kernel⟩, by decide +kernel⟩
theorem gd_Hands_turnsToMeet_0 : decode gb_Hands_turnsToMeet 0 = .ok (.aload_n 0, 1) := by decide +kernel
theorem gd_Hands_turnsToMeet_1 : decode gb_Hands_turnsToMeet 1 = .ok (.getfield 20, 3) := by decide +kernel
theorem gd_Hands_turnsToMeet_4 : decode gb_Hands_turnsToMeet 4 = .ok (.getfield 41, 3) := by decide +kernel
theorem gd_Hands_turnsToMeet_7 : decode gb_Hands_turnsToMeet 7 = .ok (.aload_n 1, 1) := by decide +kernel
theorem gd_Hands_turnsToMeet_8 : decode gb_Hands_turnsToMeet 8 = .ok (.getfield 48, 3) := by decide +kernel
theorem gd_Hands_turnsToMeet_11 : decode gb_Hands_turnsToMeet 11 = .ok (.aload_n 2, 1) := by decide +kernel
theorem gd_Hands_turnsToMeet_12 : decode gb_Hands_turnsToMeet 12 = .ok (.getfield 41, 3) := by decide +kernel
theorem gd_Hands_turnsToMeet_15 : decode gb_Hands_turnsToMeet 15 = .ok (.invokevirtual 44, 3) := by decide +kernel
theorem gd_Hands_turnsToMeet_18 : decode gb_Hands_turnsToMeet 18 = .ok (.aload_n 0, 1) := by decide +kernel
theorem gd_Hands_turnsToMeet_19 : decode gb_Hands_turnsToMeet 19 = .ok (.getfield 31, 3) := by decide +kernel
theorem gd_Hands_turnsToMeet_22 : decode gb_Hands_turnsToMeet 22 = .ok (.aload_n 2, 1) := by decide +kernel
theorem gd_Hands_turnsToMeet_23 : decode gb_Hands_turnsToMeet 23 = .ok (.getfield 48, 3) := by decide +kernel
theorem gd_Hands_turnsToMeet_26 : decode gb_Hands_turnsToMeet 26 = .ok (.aload_n 1, 1) := by decide +kernel
theorem gd_Hands_turnsToMeet_27 : decode gb_Hands_turnsToMeet 27 = .ok (.getfield 41, 3) := by decide +kernel
theorem gd_Hands_turnsToMeet_30 : decode gb_Hands_turnsToMeet 30 = .ok (.invokevirtual 44, 3) := by decide +kernel
theorem gd_Hands_turnsToMeet_33 : decode gb_Hands_turnsToMeet 33 = .ok (.aload_n 0, 1) := by decide +kernel
theorem gd_Hands_turnsToMeet_34 : decode gb_Hands_turnsToMeet 34 = .ok (.getfield 20, 3) := by decide +kernel
theorem gd_Hands_turnsToMeet_37 : decode gb_Hands_turnsToMeet 37 = .ok (.getfield 41, 3) := by decide +kernel
theorem gd_Hands_turnsToMeet_40 : decode gb_Hands_turnsToMeet 40 = .ok (.aload_n 0, 1) := by decide +kernel
theorem gd_Hands_turnsToMeet_41 : decode gb_Hands_turnsToMeet 41 = .ok (.getfield 20, 3) := by decide +kernel
theorem gd_Hands_turnsToMeet_44 : decode gb_Hands_turnsToMeet 44 = .ok (.getfield 41, 3) := by decide +kernel
theorem gd_Hands_turnsToMeet_47 : decode gb_Hands_turnsToMeet 47 = .ok (.aload_n 0, 1) := by decide +kernel
theorem gd_Hands_turnsToMeet_48 : decode gb_Hands_turnsToMeet 48 = .ok (.getfield 31, 3) := by decide +kernel
theorem gd_Hands_turnsToMeet_51 : decode gb_Hands_turnsToMeet 51 = .ok (.invokevirtual 65, 3) := by decide +kernel
theorem gd_Hands_turnsToMeet_54 : decode gb_Hands_turnsToMeet 54 = .ok (.aload_n 0, 1) := by decide +kernel
theorem gd_Hands_turnsToMeet_55 : decode gb_Hands_turnsToMeet 55 = .ok (.getfield 20, 3) := by decide +kernel
theorem gd_Hands_turnsToMeet_58 : decode gb_Hands_turnsToMeet 58 = .ok (.getfield 41, 3) := by decide +kernel
theorem gd_Hands_turnsToMeet_61 : decode gb_Hands_turnsToMeet 61 = .ok (.getfield 61, 3) := by decide +kernel
theorem gd_Hands_turnsToMeet_64 : decode gb_Hands_turnsToMeet 64 = .ok (.ifCond .ne 5, 3) := by decide +kernel
theorem gd_Hands_turnsToMeet_67 : decode gb_Hands_turnsToMeet 67 = .ok (.iconst 0, 1) := by decide +kernel
theorem gd_Hands_turnsToMeet_68 : decode gb_Hands_turnsToMeet 68 = .ok (.ireturn, 1) := by decide +kernel
theorem gd_Hands_turnsToMeet_69 : decode gb_Hands_turnsToMeet 69 = .ok (.aload_n 0, 1) := by decide +kernel
theorem gd_Hands_turnsToMeet_70 : decode gb_Hands_turnsToMeet 70 = .ok (.getfield 20, 3) := by decide +kernel
theorem gd_Hands_turnsToMeet_73 : decode gb_Hands_turnsToMeet 73 = .ok (.getfield 41, 3) := by decide +kernel
theorem gd_Hands_turnsToMeet_76 : decode gb_Hands_turnsToMeet 76 = .ok (.iconst 1, 1) := by decide +kernel
theorem gd_Hands_turnsToMeet_77 : decode gb_Hands_turnsToMeet 77 = .ok (.putfield 61, 3) := by decide +kernel
theorem gd_Hands_turnsToMeet_80 : decode gb_Hands_turnsToMeet 80 = .ok (.aload_n 0, 1) := by decide +kernel
theorem gd_Hands_turnsToMeet_81 : decode gb_Hands_turnsToMeet 81 = .ok (.getfield 20, 3) := by decide +kernel
theorem gd_Hands_turnsToMeet_84 : decode gb_Hands_turnsToMeet 84 = .ok (.getfield 48, 3) := by decide +kernel
theorem gd_Hands_turnsToMeet_87 : decode gb_Hands_turnsToMeet 87 = .ok (.aload_n 1, 1) := by decide +kernel
theorem gd_Hands_turnsToMeet_88 : decode gb_Hands_turnsToMeet 88 = .ok (.getfield 41, 3) := by decide +kernel
theorem gd_Hands_turnsToMeet_91 : decode gb_Hands_turnsToMeet 91 = .ok (.aload_n 2, 1) := by decide +kernel
theorem gd_Hands_turnsToMeet_92 : decode gb_Hands_turnsToMeet 92 = .ok (.getfield 41, 3) := by decide +kernel
theorem gd_Hands_turnsToMeet_95 : decode gb_Hands_turnsToMeet 95 = .ok (.invokevirtual 44, 3) := by decide +kernel
theorem gd_Hands_turnsToMeet_98 : decode gb_Hands_turnsToMeet 98 = .ok (.aload_n 0, 1) := by decide +kernel
theorem gd_Hands_turnsToMeet_99 : decode gb_Hands_turnsToMeet 99 = .ok (.getfield 7, 3) := by decide +kernel
theorem gd_Hands_turnsToMeet_102 : decode gb_Hands_turnsToMeet 102 = .ok (.aload_n 0, 1) := by decide +kernel
theorem gd_Hands_turnsToMeet_103 : decode gb_Hands_turnsToMeet 103 = .ok (.getfield 20, 3) := by decide +kernel
theorem gd_Hands_turnsToMeet_106 : decode gb_Hands_turnsToMeet 106 = .ok (.invokevirtual 75, 3) := by decide +kernel
theorem gd_Hands_turnsToMeet_109 : decode gb_Hands_turnsToMeet 109 = .ok (.iconst 1, 1) := by decide +kernel
theorem gd_Hands_turnsToMeet_110 : decode gb_Hands_turnsToMeet 110 = .ok (.ireturn, 1) := by decide +kernel
def gf_Hands_turnsToMeet_b0 (F : Nat) (z : gw_Sh)  (u : gw_St) (t0 : Nat) (t1 : Nat) (t2 : Nat) : Option (Int32 × gw_St) :=
  gf_nn (u.2.2 t0 1) fun q1 => gf_nn (u.2.2 q1 1) fun q3 => gf_nn (u.2.2 t1 0) fun q5 => gf_nn (u.2.2 t2 1) fun q7 => (gf_Whole_setProduct F z u q3 q5 q7).bind fun u9 => gf_nn (u9.2.2 t0 3) fun q11 => gf_nn (u9.2.2 t2 0) fun q13 => gf_nn (u9.2.2 t1 1) fun q15 => (gf_Whole_setProduct F z u9 q11 q13 q15).bind fun u17 => gf_nn (u17.2.2 t0 1) fun q19 => gf_nn (u17.2.2 q19 1) fun q21 => gf_nn (u17.2.2 t0 1) fun q23 => gf_nn (u17.2.2 q23 1) fun q25 => gf_nn (u17.2.2 t0 3) fun q27 => (gf_Whole_setDifference F z u17 q21 q25 q27).bind fun u29 => gf_nn (u29.2.2 t0 1) fun q31 => gf_nn (u29.2.2 q31 1) fun q33 => if (u29.1 q33 2) = 0 then (if ¬ ((0 : Int32) &&& 1 = (0 : Int32)) then none else some ((0 : Int32), u29)) else (gf_nn (u29.2.2 t0 1) fun q36 => gf_nn (u29.2.2 q36 1) fun q38 => gf_nm (gw_wi u29 q38 2 (1 : Int32)) fun u40 => gf_nn (u40.2.2 t0 1) fun q42 => gf_nn (u40.2.2 q42 0) fun q44 => gf_nn (u40.2.2 t1 1) fun q46 => gf_nn (u40.2.2 t2 1) fun q48 => (gf_Whole_setProduct F z u40 q44 q46 q48).bind fun u50 => gf_nn (u50.2.2 t0 0) fun q52 => gf_nn (u50.2.2 t0 1) fun q54 => (gf_Calculator_reduce F z u50 q52 q54).bind fun u56 => if ¬ ((1 : Int32) &&& 1 = (1 : Int32)) then none else some ((1 : Int32), u56))
def gf_Hands_turnsToMeet (F : Nat) (z : gw_Sh) (u : gw_St) (t0 : Nat) (t1 : Nat) (t2 : Nat) : Option (Int32 × gw_St) := gf_Hands_turnsToMeet_b0 F z  u t0 t1 t2
set_option maxHeartbeats 4000000 in
set_option maxRecDepth 20000 in
theorem gx_Hands_turnsToMeet_b0 {p : Program} {l : Launch} {e : Env} {s : State} {m : MethodId} {args : Array Value} {below : List Frame} {meth : Method} {c : Code} {D : va_G} {cA : Nat → ClassId} {hs : Nat → Nat} {z : gw_Sh} (F : Nat) {r0 : (Int32 × gw_St)} (C : gw_Cx p s m args c gb_Hands_turnsToMeet 3 R_Hands D cA) (hr : meth.sig.returnType = (some .boolean)) (hk : meth.locks = false) (u : gw_St) (t0 : Nat) (t1 : Nat) (t2 : Nat) (o_t0 : gw_ok z t0 5) (o_t1 : gw_ok z t1 6) (o_t2 : gw_ok z t2 6) {H : Heap} {locs : List Loc} {ls : Array Slot} (hW : gw_Wx D cA hs z s u H locs) (hl : lv_has ls 3 [(0, .ref (hs t0)), (1, .ref (hs t1)), (2, .ref (hs t2))]) (h : gf_Hands_turnsToMeet_b0 F z   u t0 t1 t2 = some r0) : gw_Gi p l e gr_Hands_turnsToMeet s m args below meth c D cA hs z r0 H locs ls 0 [] := by
  obtain ⟨hx, hb, hml, hown, hts, hK⟩ := id C
  unfold gf_Hands_turnsToMeet_b0 at h
  refine lv_aload_n hx hb gd_Hands_turnsToMeet_0 rfl (lv_at hl 0 rfl) ?_
  obtain ⟨q1, e2, h⟩ := gf_nn_ok h
  refine gw_getr (k := 1) (ty := 6) (ref := R_Hands) C hW o_t0 (by decide) rfl gi_Hands rfl (by decide) rfl rfl gk_327 gd_Hands_turnsToMeet_1 e2 ?_
  have o_q1 := hW.ref (d := 6) o_t0 e2 rfl
  obtain ⟨q3, e4, h⟩ := gf_nn_ok h
  refine gw_getr (k := 1) (ty := 8) (ref := R_Fraction) C hW o_q1 (by decide) rfl gi_Fraction rfl (by decide) rfl rfl gk_332 gd_Hands_turnsToMeet_4 e4 ?_
  have o_q3 := hW.ref (d := 8) o_q1 e4 rfl
  refine lv_aload_n hx hb gd_Hands_turnsToMeet_7 rfl (lv_at hl 1 rfl) ?_
  obtain ⟨q5, e6, h⟩ := gf_nn_ok h
  refine gw_getr (k := 0) (ty := 8) (ref := R_Fraction) C hW o_t1 (by decide) rfl gi_Fraction rfl (by decide) rfl rfl gk_328 gd_Hands_turnsToMeet_8 e6 ?_
  have o_q5 := hW.ref (d := 8) o_t1 e6 rfl
  refine lv_aload_n hx hb gd_Hands_turnsToMeet_11 rfl (lv_at hl 2 rfl) ?_
  obtain ⟨q7, e8, h⟩ := gf_nn_ok h
  refine gw_getr (k := 1) (ty := 8) (ref := R_Fraction) C hW o_t2 (by decide) rfl gi_Fraction rfl (by decide) rfl rfl gk_332 gd_Hands_turnsToMeet_12 e8 ?_
  have o_q7 := hW.ref (d := 8) o_t2 e8 rfl
  obtain ⟨u9, d10, h⟩ := gf_bd_ok h
  refine gw_callVv (K := R_Whole) (As := [.ref (hs q5), .ref (hs q7)]) (rest := []) C hW (fun _ h => Or.inr h) hl.1 gm_Whole_setProduct (gc_Whole_setProduct l F o_q3 o_q5 o_q7 d10 _) gk_330 gk_262 gk_263 o_q3 (by decide) rfl rfl rfl ⟨Nat.le_of_ble_eq_true rfl, Nat.le_of_ble_eq_true rfl⟩ ⟨Nat.zero_le _, Nat.zero_le _⟩ rfl rfl (Nat.le_of_ble_eq_true rfl) gd_Hands_turnsToMeet_15 (fun H locs hW => ?_)
  refine lv_aload_n hx hb gd_Hands_turnsToMeet_18 rfl (lv_at hl 0 rfl) ?_
  obtain ⟨q11, e12, h⟩ := gf_nn_ok h
  refine gw_getr (k := 3) (ty := 8) (ref := R_Hands) C hW o_t0 (by decide) rfl gi_Hands rfl (by decide) rfl rfl gk_329 gd_Hands_turnsToMeet_19 e12 ?_
  have o_q11 := hW.ref (d := 8) o_t0 e12 rfl
  refine lv_aload_n hx hb gd_Hands_turnsToMeet_22 rfl (lv_at hl 2 rfl) ?_
  obtain ⟨q13, e14, h⟩ := gf_nn_ok h
  refine gw_getr (k := 0) (ty := 8) (ref := R_Fraction) C hW o_t2 (by decide) rfl gi_Fraction rfl (by decide) rfl rfl gk_328 gd_Hands_turnsToMeet_23 e14 ?_
  have o_q13 := hW.ref (d := 8) o_t2 e14 rfl
  refine lv_aload_n hx hb gd_Hands_turnsToMeet_26 rfl (lv_at hl 1 rfl) ?_
  obtain ⟨q15, e16, h⟩ := gf_nn_ok h
  refine gw_getr (k := 1) (ty := 8) (ref := R_Fraction) C hW o_t1 (by decide) rfl gi_Fraction rfl (by decide) rfl rfl gk_332 gd_Hands_turnsToMeet_27 e16 ?_
  have o_q15 := hW.ref (d := 8) o_t1 e16 rfl
  obtain ⟨u17, d18, h⟩ := gf_bd_ok h
  refine gw_callVv (K := R_Whole) (As := [.ref (hs q13), .ref (hs q15)]) (rest := []) C hW (fun _ h => Or.inr h) hl.1 gm_Whole_setProduct (gc_Whole_setProduct l F o_q11 o_q13 o_q15 d18 _) gk_330 gk_262 gk_263 o_q11 (by decide) rfl rfl rfl ⟨Nat.le_of_ble_eq_true rfl, Nat.le_of_ble_eq_true rfl⟩ ⟨Nat.zero_le _, Nat.zero_le _⟩ rfl rfl (Nat.le_of_ble_eq_true rfl) gd_Hands_turnsToMeet_30 (fun H locs hW => ?_)
  refine lv_aload_n hx hb gd_Hands_turnsToMeet_33 rfl (lv_at hl 0 rfl) ?_
  obtain ⟨q19, e20, h⟩ := gf_nn_ok h
  refine gw_getr (k := 1) (ty := 6) (ref := R_Hands) C hW o_t0 (by decide) rfl gi_Hands rfl (by decide) rfl rfl gk_327 gd_Hands_turnsToMeet_34 e20 ?_
  have o_q19 := hW.ref (d := 6) o_t0 e20 rfl
  obtain ⟨q21, e22, h⟩ := gf_nn_ok h
  refine gw_getr (k := 1) (ty := 8) (ref := R_Fraction) C hW o_q19 (by decide) rfl gi_Fraction rfl (by decide) rfl rfl gk_332 gd_Hands_turnsToMeet_37 e22 ?_
  have o_q21 := hW.ref (d := 8) o_q19 e22 rfl
  refine lv_aload_n hx hb gd_Hands_turnsToMeet_40 rfl (lv_at hl 0 rfl) ?_
  obtain ⟨q23, e24, h⟩ := gf_nn_ok h
  refine gw_getr (k := 1) (ty := 6) (ref := R_Hands) C hW o_t0 (by decide) rfl gi_Hands rfl (by decide) rfl rfl gk_327 gd_Hands_turnsToMeet_41 e24 ?_
  have o_q23 := hW.ref (d := 6) o_t0 e24 rfl
  obtain ⟨q25, e26, h⟩ := gf_nn_ok h
  refine gw_getr (k := 1) (ty := 8) (ref := R_Fraction) C hW o_q23 (by decide) rfl gi_Fraction rfl (by decide) rfl rfl gk_332 gd_Hands_turnsToMeet_44 e26 ?_
  have o_q25 := hW.ref (d := 8) o_q23 e26 rfl
  refine lv_aload_n hx hb gd_Hands_turnsToMeet_47 rfl (lv_at hl 0 rfl) ?_
  obtain ⟨q27, e28, h⟩ := gf_nn_ok h
  refine gw_getr (k := 3) (ty := 8) (ref := R_Hands) C hW o_t0 (by decide) rfl gi_Hands rfl (by decide) rfl rfl gk_329 gd_Hands_turnsToMeet_48 e28 ?_
  have o_q27 := hW.ref (d := 8) o_t0 e28 rfl
  obtain ⟨u29, d30, h⟩ := gf_bd_ok h
  refine gw_callVv (K := R_Whole) (As := [.ref (hs q25), .ref (hs q27)]) (rest := []) C hW (fun _ h => Or.inr h) hl.1 gm_Whole_setDifference (gc_Whole_setDifference l F o_q21 o_q25 o_q27 d30 _) gk_342 gk_265 gk_266 o_q21 (by decide) rfl rfl rfl ⟨Nat.le_of_ble_eq_true rfl, Nat.le_of_ble_eq_true rfl⟩ ⟨Nat.zero_le _, Nat.zero_le _⟩ rfl rfl (Nat.le_of_ble_eq_true rfl) gd_Hands_turnsToMeet_51 (fun H locs hW => ?_)
  refine lv_aload_n hx hb gd_Hands_turnsToMeet_54 rfl (lv_at hl 0 rfl) ?_
  obtain ⟨q31, e32, h⟩ := gf_nn_ok h
  refine gw_getr (k := 1) (ty := 6) (ref := R_Hands) C hW o_t0 (by decide) rfl gi_Hands rfl (by decide) rfl rfl gk_327 gd_Hands_turnsToMeet_55 e32 ?_
  have o_q31 := hW.ref (d := 6) o_t0 e32 rfl
  obtain ⟨q33, e34, h⟩ := gf_nn_ok h
  refine gw_getr (k := 1) (ty := 8) (ref := R_Fraction) C hW o_q31 (by decide) rfl gi_Fraction rfl (by decide) rfl rfl gk_332 gd_Hands_turnsToMeet_58 e34 ?_
  have o_q33 := hW.ref (d := 8) o_q31 e34 rfl
  refine gw_geti (k := 2) (ref := R_Whole) C hW o_q33 (by decide) rfl gi_Whole rfl (by decide) rfl rfl gk_341 gd_Hands_turnsToMeet_61 ?_
  refine lv_if_ne (tgt := 69) hx hb gd_Hands_turnsToMeet_64 (by decide) (fun c35 => ?_) (fun c35 => ?_)
  · have h := gf_f c35 h
    refine lv_aload_n hx hb gd_Hands_turnsToMeet_69 rfl (lv_at hl 0 rfl) ?_
    obtain ⟨q36, e37, h⟩ := gf_nn_ok h
    refine gw_getr (k := 1) (ty := 6) (ref := R_Hands) C hW o_t0 (by decide) rfl gi_Hands rfl (by decide) rfl rfl gk_327 gd_Hands_turnsToMeet_70 e37 ?_
    have o_q36 := hW.ref (d := 6) o_t0 e37 rfl
    obtain ⟨q38, e39, h⟩ := gf_nn_ok h
    refine gw_getr (k := 1) (ty := 8) (ref := R_Fraction) C hW o_q36 (by decide) rfl gi_Fraction rfl (by decide) rfl rfl gk_332 gd_Hands_turnsToMeet_73 e39 ?_
    have o_q38 := hW.ref (d := 8) o_q36 e39 rfl
    refine lv_iconst (v := 1) hx hb gd_Hands_turnsToMeet_76 (by decide) ?_
    refine gw_puti (k := 2) (ref := R_Whole) (fty := .int) C hW o_q38 (by decide) rfl gi_Whole rfl (by decide) rfl rfl gk_341 tf_Whole tf_Whole_ok nm_Whole rfl rfl rfl rfl gd_Hands_turnsToMeet_77 (fun u40 H locs e41 hW => ?_)
    have h := gf_nm_ok e41 h
    refine lv_aload_n hx hb gd_Hands_turnsToMeet_80 rfl (lv_at hl 0 rfl) ?_
    obtain ⟨q42, e43, h⟩ := gf_nn_ok h
    refine gw_getr (k := 1) (ty := 6) (ref := R_Hands) C hW o_t0 (by decide) rfl gi_Hands rfl (by decide) rfl rfl gk_327 gd_Hands_turnsToMeet_81 e43 ?_
    have o_q42 := hW.ref (d := 6) o_t0 e43 rfl
    obtain ⟨q44, e45, h⟩ := gf_nn_ok h
    refine gw_getr (k := 0) (ty := 8) (ref := R_Fraction) C hW o_q42 (by decide) rfl gi_Fraction rfl (by decide) rfl rfl gk_328 gd_Hands_turnsToMeet_84 e45 ?_
    have o_q44 := hW.ref (d := 8) o_q42 e45 rfl
    refine lv_aload_n hx hb gd_Hands_turnsToMeet_87 rfl (lv_at hl 1 rfl) ?_
    obtain ⟨q46, e47, h⟩ := gf_nn_ok h
    refine gw_getr (k := 1) (ty := 8) (ref := R_Fraction) C hW o_t1 (by decide) rfl gi_Fraction rfl (by decide) rfl rfl gk_332 gd_Hands_turnsToMeet_88 e47 ?_
    have o_q46 := hW.ref (d := 8) o_t1 e47 rfl
    refine lv_aload_n hx hb gd_Hands_turnsToMeet_91 rfl (lv_at hl 2 rfl) ?_
    obtain ⟨q48, e49, h⟩ := gf_nn_ok h
    refine gw_getr (k := 1) (ty := 8) (ref := R_Fraction) C hW o_t2 (by decide) rfl gi_Fraction rfl (by decide) rfl rfl gk_332 gd_Hands_turnsToMeet_92 e49 ?_
    have o_q48 := hW.ref (d := 8) o_t2 e49 rfl
    obtain ⟨u50, d51, h⟩ := gf_bd_ok h
    refine gw_callVv (K := R_Whole) (As := [.ref (hs q46), .ref (hs q48)]) (rest := []) C hW (fun _ h => Or.inr h) hl.1 gm_Whole_setProduct (gc_Whole_setProduct l F o_q44 o_q46 o_q48 d51 _) gk_330 gk_262 gk_263 o_q44 (by decide) rfl rfl rfl ⟨Nat.le_of_ble_eq_true rfl, Nat.le_of_ble_eq_true rfl⟩ ⟨Nat.zero_le _, Nat.zero_le _⟩ rfl rfl (Nat.le_of_ble_eq_true rfl) gd_Hands_turnsToMeet_95 (fun H locs hW => ?_)
    refine lv_aload_n hx hb gd_Hands_turnsToMeet_98 rfl (lv_at hl 0 rfl) ?_
    obtain ⟨q52, e53, h⟩ := gf_nn_ok h
    refine gw_getr (k := 0) (ty := 7) (ref := R_Hands) C hW o_t0 (by decide) rfl gi_Hands rfl (by decide) rfl rfl gk_331 gd_Hands_turnsToMeet_99 e53 ?_
    have o_q52 := hW.ref (d := 7) o_t0 e53 rfl
    refine lv_aload_n hx hb gd_Hands_turnsToMeet_102 rfl (lv_at hl 0 rfl) ?_
    obtain ⟨q54, e55, h⟩ := gf_nn_ok h
    refine gw_getr (k := 1) (ty := 6) (ref := R_Hands) C hW o_t0 (by decide) rfl gi_Hands rfl (by decide) rfl rfl gk_327 gd_Hands_turnsToMeet_103 e55 ?_
    have o_q54 := hW.ref (d := 6) o_t0 e55 rfl
    obtain ⟨u56, d57, h⟩ := gf_bd_ok h
    refine gw_callVv (K := R_Calculator) (As := [.ref (hs q54)]) (rest := []) C hW (fun _ h => Or.inr h) hl.1 gm_Calculator_reduce (gc_Calculator_reduce l F o_q52 o_q54 d57 _) gk_340 gk_304 gk_305 o_q52 (by decide) rfl rfl rfl ⟨Nat.le_of_ble_eq_true rfl, Nat.le_of_ble_eq_true rfl⟩ ⟨Nat.zero_le _, Nat.zero_le _⟩ rfl rfl (Nat.le_of_ble_eq_true rfl) gd_Hands_turnsToMeet_106 (fun H locs hW => ?_)
    refine lv_iconst (v := 1) hx hb gd_Hands_turnsToMeet_109 (by decide) ?_
    obtain ⟨g58, h⟩ := gf_if_ok h
    obtain rfl := Option.some.inj h
    exact gw_zret C hW hr (Decidable.not_not.mp g58) hk gd_Hands_turnsToMeet_110
  · have h := gf_t c35 h
    refine lv_iconst (v := 0) hx hb gd_Hands_turnsToMeet_67 (by decide) ?_
    obtain ⟨g59, h⟩ := gf_if_ok h
    obtain rfl := Option.some.inj h
    exact gw_zret C hW hr (Decidable.not_not.mp g59) hk gd_Hands_turnsToMeet_68

set_option maxRecDepth 20000 in
theorem gc_Hands_turnsToMeet (l : Launch) {D : va_G} {cA : Nat → ClassId} {hs : Nat → Nat} {z : gw_Sh} (F : Nat) {u : gw_St} {r0 : (Int32 × gw_St)} {t0 : Nat} {t1 : Nat} {t2 : Nat} (o_t0 : gw_ok z t0 5) (o_t1 : gw_ok z t1 6) (o_t2 : gw_ok z t2 6) (h : gf_Hands_turnsToMeet F z u t0 t1 t2 = some r0) (sz : Nat) : gw_Mi l gy_Hands_turnsToMeet gb_Hands_turnsToMeet 3 (some .boolean) gr_Hands_turnsToMeet [.ref (hs t0), .ref (hs t1), .ref (hs t2)] D cA hs z u sz r0 := by
  refine gw_enter (by decide) (Nat.le_of_ble_eq_true rfl) ?_
  intro p e s m below meth c ls hsz C hW hr hk _ hl
  subst hsz
  exact gx_Hands_turnsToMeet_b0 F C hr hk u t0 t1 t2 o_t0 o_t1 o_t2 hW (lv_sub hl [0, 1, 2] rfl) h
-- GearDesk$Hands.beginReturn()V
def gy_Hands_beginReturn : MethodName := ⟨R_Hands, "beginReturn", "()V"⟩
abbrev gb_Hands_beginReturn : ByteArray := prog_5_method_4_code
theorem gk_346 : Cond.code gy_Hands_beginReturn gb_Hands_beginReturn 1 none ∈ gt_T := gt_m6 (List.mem_of_getElem? (i := 21) rfl) rfl
def gr_Hands_beginReturn : Room := gw_rm 3 111
theorem gm_Hands_beginReturn : gw_Mth gy_Hands_beginReturn gb_Hands_beginReturn 1 none 0 := ⟨gk_346, gk_343, ⟨by decide +kernel, by decide +kernel⟩, by decide +kernel⟩
theorem gd_Hands_beginReturn_0 : decode gb_Hands_beginReturn 0 = .ok (.aload_n 0, 1) := by decide +kernel
theorem gd_Hands_beginReturn_1 : decode gb_Hands_beginReturn 1 = .ok (.getfield 20, 3) := by decide +kernel
theorem gd_Hands_beginReturn_4 : decode gb_Hands_beginReturn 4 = .ok (.getfield 48, 3) := by decide +kernel
theorem gd_Hands_beginReturn_7 : decode gb_Hands_beginReturn 7 = .ok (.lconst 1, 1) := by decide +kernel
theorem gd_Hands_beginReturn_8 : decode gb_Hands_beginReturn 8 = .ok (.invokevirtual 37, 3) := by decide +kernel
theorem gd_Hands_beginReturn_11 : decode gb_Hands_beginReturn 11 = .ok (.aload_n 0, 1) := by decide +kernel
theorem gd_Hands_beginReturn_12 : decode gb_Hands_beginReturn 12 = .ok (.getfield 20, 3) := by decide +kernel
theorem gd_Hands_beginReturn_15 : decode gb_Hands_beginReturn 15 = .ok (.getfield 41, 3) := by decide +kernel
theorem gd_Hands_beginReturn_18 : decode gb_Hands_beginReturn 18 = .ok (.lconst 0, 1) := by decide +kernel
theorem gd_Hands_beginReturn_19 : decode gb_Hands_beginReturn 19 = .ok (.invokevirtual 37, 3) := by decide +kernel
theorem gd_Hands_beginReturn_22 : decode gb_Hands_beginReturn 22 = .ok (.return_, 1) := by decide +kernel
def gf_Hands_beginReturn_b0 (F : Nat) (z : gw_Sh)  (u : gw_St) (t0 : Nat) : Option gw_St :=
  gf_nn (u.2.2 t0 1) fun q1 => gf_nn (u.2.2 q1 0) fun q3 => (gf_Whole_setLong F z u q3 (1 : Int64)).bind fun u5 => gf_nn (u5.2.2 t0 1) fun q7 => gf_nn (u5.2.2 q7 1) fun q9 => (gf_Whole_setLong F z u5 q9 (0 : Int64)).bind fun u11 => some u11
def gf_Hands_beginReturn (F : Nat) (z : gw_Sh) (u : gw_St) (t0 : Nat) : Option gw_St := gf_Hands_beginReturn_b0 F z  u t0
set_option maxHeartbeats 4000000 in
set_option maxRecDepth 20000 in
theorem gx_Hands_beginReturn_b0 {p : Program} {l : Launch} {e : Env} {s : State} {m : MethodId} {args : Array Value} {below : List Frame} {meth : Method} {c : Code} {D : va_G} {cA : Nat → ClassId} {hs : Nat → Nat} {z : gw_Sh} (F : Nat) {r0 : gw_St} (C : gw_Cx p s m args c gb_Hands_beginReturn 1 R_Hands D cA) (hr : meth.sig.returnType = none) (hk : meth.locks = false) (u : gw_St) (t0 : Nat) (o_t0 : gw_ok z t0 5) {H : Heap} {locs : List Loc} {ls : Array Slot} (hW : gw_Wx D cA hs z s u H locs) (hl : lv_has ls 1 [(0, .ref (hs t0))]) (h : gf_Hands_beginReturn_b0 F z   u t0 = some r0) : gw_Gv p l e gr_Hands_beginReturn s m args below meth c D cA hs z r0 H locs ls 0 [] := by
  obtain ⟨hx, hb, hml, hown, hts, hK⟩ := id C
  unfold gf_Hands_beginReturn_b0 at h
  refine lv_aload_n hx hb gd_Hands_beginReturn_0 rfl (lv_at hl 0 rfl) ?_
  obtain ⟨q1, e2, h⟩ := gf_nn_ok h
  refine gw_getr (k := 1) (ty := 6) (ref := R_Hands) C hW o_t0 (by decide) rfl gi_Hands rfl (by decide) rfl rfl gk_327 gd_Hands_beginReturn_1 e2 ?_
  have o_q1 := hW.ref (d := 6) o_t0 e2 rfl
  obtain ⟨q3, e4, h⟩ := gf_nn_ok h
  refine gw_getr (k := 0) (ty := 8) (ref := R_Fraction) C hW o_q1 (by decide) rfl gi_Fraction rfl (by decide) rfl rfl gk_328 gd_Hands_beginReturn_4 e4 ?_
  have o_q3 := hW.ref (d := 8) o_q1 e4 rfl
  refine lv_lconst (v := 1) hx hb gd_Hands_beginReturn_7 (by decide) ?_
  obtain ⟨u5, d6, h⟩ := gf_bd_ok h
  refine gw_callVv (K := R_Whole) (As := [.long (1 : Int64)]) (rest := []) C hW (fun _ h => Or.inr h) hl.1 gm_Whole_setLong (gc_Whole_setLong l F o_q3 d6 _) gk_326 gk_71 gk_72 o_q3 (by decide) rfl rfl rfl ⟨Nat.le_of_ble_eq_true rfl, Nat.le_of_ble_eq_true rfl⟩ ⟨Nat.zero_le _, Nat.zero_le _⟩ rfl rfl (Nat.le_of_ble_eq_true rfl) gd_Hands_beginReturn_8 (fun H locs hW => ?_)
  refine lv_aload_n hx hb gd_Hands_beginReturn_11 rfl (lv_at hl 0 rfl) ?_
  obtain ⟨q7, e8, h⟩ := gf_nn_ok h
  refine gw_getr (k := 1) (ty := 6) (ref := R_Hands) C hW o_t0 (by decide) rfl gi_Hands rfl (by decide) rfl rfl gk_327 gd_Hands_beginReturn_12 e8 ?_
  have o_q7 := hW.ref (d := 6) o_t0 e8 rfl
  obtain ⟨q9, e10, h⟩ := gf_nn_ok h
  refine gw_getr (k := 1) (ty := 8) (ref := R_Fraction) C hW o_q7 (by decide) rfl gi_Fraction rfl (by decide) rfl rfl gk_332 gd_Hands_beginReturn_15 e10 ?_
  have o_q9 := hW.ref (d := 8) o_q7 e10 rfl
  refine lv_lconst (v := 0) hx hb gd_Hands_beginReturn_18 (by decide) ?_
  obtain ⟨u11, d12, h⟩ := gf_bd_ok h
  refine gw_callVv (K := R_Whole) (As := [.long (0 : Int64)]) (rest := []) C hW (fun _ h => Or.inr h) hl.1 gm_Whole_setLong (gc_Whole_setLong l F o_q9 d12 _) gk_326 gk_71 gk_72 o_q9 (by decide) rfl rfl rfl ⟨Nat.le_of_ble_eq_true rfl, Nat.le_of_ble_eq_true rfl⟩ ⟨Nat.zero_le _, Nat.zero_le _⟩ rfl rfl (Nat.le_of_ble_eq_true rfl) gd_Hands_beginReturn_19 (fun H locs hW => ?_)
  obtain rfl := Option.some.inj h
  exact gw_vret C hW hr hk gd_Hands_beginReturn_22

set_option maxRecDepth 20000 in
theorem gc_Hands_beginReturn (l : Launch) {D : va_G} {cA : Nat → ClassId} {hs : Nat → Nat} {z : gw_Sh} (F : Nat) {u : gw_St} {r0 : gw_St} {t0 : Nat} (o_t0 : gw_ok z t0 5) (h : gf_Hands_beginReturn F z u t0 = some r0) (sz : Nat) : gw_Mv l gy_Hands_beginReturn gb_Hands_beginReturn 1 none gr_Hands_beginReturn [.ref (hs t0)] D cA hs z u sz r0 := by
  refine gw_enter (by decide) (Nat.le_of_ble_eq_true rfl) ?_
  intro p e s m below meth c ls hsz C hW hr hk _ hl
  subst hsz
  exact gx_Hands_beginReturn_b0 F C hr hk u t0 o_t0 hW (lv_sub hl [0] rfl) h
-- GearDesk$Hands.alsoReturn(LGearDesk$Fraction;)V
theorem gk_347 : Cond.methodLink R_Hands 79 gy_Fraction_isTooLarge ∈ gt_T := gt_m6 (List.mem_of_getElem? (i := 26) rfl) rfl
theorem gk_348 : Cond.fieldLink R_Hands 34 R_Hands "common" "LGearDesk$Whole;" ∈ gt_T := gt_m2 (List.mem_of_getElem? (i := 42) rfl) rfl
theorem gk_349 : Cond.methodLink R_Hands 83 gy_Calculator_findDivisor ∈ gt_T := gt_m6 (List.mem_of_getElem? (i := 27) rfl) rfl
def gy_Hands_alsoReturn : MethodName := ⟨R_Hands, "alsoReturn", "(LGearDesk$Fraction;)V"⟩
abbrev gb_Hands_alsoReturn : ByteArray := prog_5_method_5_code
theorem gk_350 : Cond.code gy_Hands_alsoReturn gb_Hands_alsoReturn 2 none ∈ gt_T := gt_m6 (List.mem_of_getElem? (i := 25) rfl) rfl
def gr_Hands_alsoReturn : Room := gw_rm 5 163
theorem gm_Hands_alsoReturn : gw_Mth gy_Hands_alsoReturn gb_Hands_alsoReturn 2 none 1 := ⟨gk_350, gk_343, ⟨by decide +kernel, by decide +kernel⟩, by decide +kernel⟩
theorem gd_Hands_alsoReturn_0 : decode gb_Hands_alsoReturn 0 = .ok (.aload_n 1, 1) := by decide +kernel
theorem gd_Hands_alsoReturn_1 : decode gb_Hands_alsoReturn 1 = .ok (.getfield 48, 3) := by decide +kernel
theorem gd_Hands_alsoReturn_4 : decode gb_Hands_alsoReturn 4 = .ok (.getfield 61, 3) := by decide +kernel
theorem gd_Hands_alsoReturn_7 : decode gb_Hands_alsoReturn 7 = .ok (.ifCond .eq 13, 3) := by decide +kernel
theorem gd_Hands_alsoReturn_10 : decode gb_Hands_alsoReturn 10 = .ok (.aload_n 0, 1) := by decide +kernel
theorem gd_Hands_alsoReturn_11 : decode gb_Hands_alsoReturn 11 = .ok (.getfield 20, 3) := by decide +kernel
theorem gd_Hands_alsoReturn_14 : decode gb_Hands_alsoReturn 14 = .ok (.invokevirtual 79, 3) := by decide +kernel
theorem gd_Hands_alsoReturn_17 : decode gb_Hands_alsoReturn 17 = .ok (.ifCond .eq 4, 3) := by decide +kernel
theorem gd_Hands_alsoReturn_20 : decode gb_Hands_alsoReturn 20 = .ok (.return_, 1) := by decide +kernel
theorem gd_Hands_alsoReturn_21 : decode gb_Hands_alsoReturn 21 = .ok (.aload_n 0, 1) := by decide +kernel
theorem gd_Hands_alsoReturn_22 : decode gb_Hands_alsoReturn 22 = .ok (.getfield 7, 3) := by decide +kernel
theorem gd_Hands_alsoReturn_25 : decode gb_Hands_alsoReturn 25 = .ok (.aload_n 0, 1) := by decide +kernel
theorem gd_Hands_alsoReturn_26 : decode gb_Hands_alsoReturn 26 = .ok (.getfield 20, 3) := by decide +kernel
theorem gd_Hands_alsoReturn_29 : decode gb_Hands_alsoReturn 29 = .ok (.getfield 48, 3) := by decide +kernel
theorem gd_Hands_alsoReturn_32 : decode gb_Hands_alsoReturn 32 = .ok (.aload_n 1, 1) := by decide +kernel
theorem gd_Hands_alsoReturn_33 : decode gb_Hands_alsoReturn 33 = .ok (.getfield 41, 3) := by decide +kernel
theorem gd_Hands_alsoReturn_36 : decode gb_Hands_alsoReturn 36 = .ok (.aload_n 0, 1) := by decide +kernel
theorem gd_Hands_alsoReturn_37 : decode gb_Hands_alsoReturn 37 = .ok (.getfield 34, 3) := by decide +kernel
theorem gd_Hands_alsoReturn_40 : decode gb_Hands_alsoReturn 40 = .ok (.invokevirtual 83, 3) := by decide +kernel
theorem gd_Hands_alsoReturn_43 : decode gb_Hands_alsoReturn 43 = .ok (.aload_n 0, 1) := by decide +kernel
theorem gd_Hands_alsoReturn_44 : decode gb_Hands_alsoReturn 44 = .ok (.getfield 7, 3) := by decide +kernel
theorem gd_Hands_alsoReturn_47 : decode gb_Hands_alsoReturn 47 = .ok (.aload_n 0, 1) := by decide +kernel
theorem gd_Hands_alsoReturn_48 : decode gb_Hands_alsoReturn 48 = .ok (.getfield 20, 3) := by decide +kernel
theorem gd_Hands_alsoReturn_51 : decode gb_Hands_alsoReturn 51 = .ok (.getfield 48, 3) := by decide +kernel
theorem gd_Hands_alsoReturn_54 : decode gb_Hands_alsoReturn 54 = .ok (.aload_n 0, 1) := by decide +kernel
theorem gd_Hands_alsoReturn_55 : decode gb_Hands_alsoReturn 55 = .ok (.getfield 34, 3) := by decide +kernel
theorem gd_Hands_alsoReturn_58 : decode gb_Hands_alsoReturn 58 = .ok (.invokevirtual 51, 3) := by decide +kernel
theorem gd_Hands_alsoReturn_61 : decode gb_Hands_alsoReturn 61 = .ok (.aload_n 0, 1) := by decide +kernel
theorem gd_Hands_alsoReturn_62 : decode gb_Hands_alsoReturn 62 = .ok (.getfield 20, 3) := by decide +kernel
theorem gd_Hands_alsoReturn_65 : decode gb_Hands_alsoReturn 65 = .ok (.getfield 48, 3) := by decide +kernel
theorem gd_Hands_alsoReturn_68 : decode gb_Hands_alsoReturn 68 = .ok (.aload_n 0, 1) := by decide +kernel
theorem gd_Hands_alsoReturn_69 : decode gb_Hands_alsoReturn 69 = .ok (.getfield 7, 3) := by decide +kernel
theorem gd_Hands_alsoReturn_72 : decode gb_Hands_alsoReturn 72 = .ok (.getfield 68, 3) := by decide +kernel
theorem gd_Hands_alsoReturn_75 : decode gb_Hands_alsoReturn 75 = .ok (.aload_n 1, 1) := by decide +kernel
theorem gd_Hands_alsoReturn_76 : decode gb_Hands_alsoReturn 76 = .ok (.getfield 41, 3) := by decide +kernel
theorem gd_Hands_alsoReturn_79 : decode gb_Hands_alsoReturn 79 = .ok (.invokevirtual 44, 3) := by decide +kernel
theorem gd_Hands_alsoReturn_82 : decode gb_Hands_alsoReturn 82 = .ok (.aload_n 0, 1) := by decide +kernel
theorem gd_Hands_alsoReturn_83 : decode gb_Hands_alsoReturn 83 = .ok (.getfield 7, 3) := by decide +kernel
theorem gd_Hands_alsoReturn_86 : decode gb_Hands_alsoReturn 86 = .ok (.aload_n 0, 1) := by decide +kernel
theorem gd_Hands_alsoReturn_87 : decode gb_Hands_alsoReturn 87 = .ok (.getfield 20, 3) := by decide +kernel
theorem gd_Hands_alsoReturn_90 : decode gb_Hands_alsoReturn 90 = .ok (.getfield 41, 3) := by decide +kernel
theorem gd_Hands_alsoReturn_93 : decode gb_Hands_alsoReturn 93 = .ok (.aload_n 1, 1) := by decide +kernel
theorem gd_Hands_alsoReturn_94 : decode gb_Hands_alsoReturn 94 = .ok (.getfield 48, 3) := by decide +kernel
theorem gd_Hands_alsoReturn_97 : decode gb_Hands_alsoReturn 97 = .ok (.aload_n 0, 1) := by decide +kernel
theorem gd_Hands_alsoReturn_98 : decode gb_Hands_alsoReturn 98 = .ok (.getfield 34, 3) := by decide +kernel
theorem gd_Hands_alsoReturn_101 : decode gb_Hands_alsoReturn 101 = .ok (.invokevirtual 83, 3) := by decide +kernel
theorem gd_Hands_alsoReturn_104 : decode gb_Hands_alsoReturn 104 = .ok (.aload_n 0, 1) := by decide +kernel
theorem gd_Hands_alsoReturn_105 : decode gb_Hands_alsoReturn 105 = .ok (.getfield 20, 3) := by decide +kernel
theorem gd_Hands_alsoReturn_108 : decode gb_Hands_alsoReturn 108 = .ok (.getfield 41, 3) := by decide +kernel
theorem gd_Hands_alsoReturn_111 : decode gb_Hands_alsoReturn 111 = .ok (.aload_n 0, 1) := by decide +kernel
theorem gd_Hands_alsoReturn_112 : decode gb_Hands_alsoReturn 112 = .ok (.getfield 34, 3) := by decide +kernel
theorem gd_Hands_alsoReturn_115 : decode gb_Hands_alsoReturn 115 = .ok (.invokevirtual 57, 3) := by decide +kernel
theorem gd_Hands_alsoReturn_118 : decode gb_Hands_alsoReturn 118 = .ok (.return_, 1) := by decide +kernel
def gf_Hands_alsoReturn_b20 (F : Nat) (z : gw_Sh)  (u : gw_St)  : Option gw_St :=
  some u
def gf_Hands_alsoReturn_b0 (F : Nat) (z : gw_Sh)  (u : gw_St) (t0 : Nat) (t1 : Nat) : Option gw_St :=
  gf_nn (u.2.2 t1 0) fun q1 => if (u.1 q1 2) = 0 then (gf_Hands_alsoReturn_b20 F z  u ) else (gf_nn (u.2.2 t0 1) fun q4 => gf_cl (gf_Fraction_isTooLarge F z u q4) fun a8 u6 => if a8 = 0 then (gf_nn (u6.2.2 t0 0) fun q10 => gf_nn (u6.2.2 t0 1) fun q12 => gf_nn (u6.2.2 q12 0) fun q14 => gf_nn (u6.2.2 t1 1) fun q16 => gf_nn (u6.2.2 t0 4) fun q18 => (gf_Calculator_findDivisor F z u6 q10 q14 q16 q18).bind fun u20 => gf_nn (u20.2.2 t0 0) fun q22 => gf_nn (u20.2.2 t0 1) fun q24 => gf_nn (u20.2.2 q24 0) fun q26 => gf_nn (u20.2.2 t0 4) fun q28 => (gf_Calculator_divide F z u20 q22 q26 q28).bind fun u30 => gf_nn (u30.2.2 t0 1) fun q32 => gf_nn (u30.2.2 q32 0) fun q34 => gf_nn (u30.2.2 t0 0) fun q36 => gf_nn (u30.2.2 q36 0) fun q38 => gf_nn (u30.2.2 t1 1) fun q40 => (gf_Whole_setProduct F z u30 q34 q38 q40).bind fun u42 => gf_nn (u42.2.2 t0 0) fun q44 => gf_nn (u42.2.2 t0 1) fun q46 => gf_nn (u42.2.2 q46 1) fun q48 => gf_nn (u42.2.2 t1 0) fun q50 => gf_nn (u42.2.2 t0 4) fun q52 => (gf_Calculator_findDivisor F z u42 q44 q48 q50 q52).bind fun u54 => gf_nn (u54.2.2 t0 1) fun q56 => gf_nn (u54.2.2 q56 1) fun q58 => gf_nn (u54.2.2 t0 4) fun q60 => (gf_Whole_copyFrom F z u54 q58 q60).bind fun u62 => some u62) else (gf_Hands_alsoReturn_b20 F z  u6 ))
def gf_Hands_alsoReturn (F : Nat) (z : gw_Sh) (u : gw_St) (t0 : Nat) (t1 : Nat) : Option gw_St := gf_Hands_alsoReturn_b0 F z  u t0 t1
set_option maxHeartbeats 4000000 in
set_option maxRecDepth 20000 in
theorem gx_Hands_alsoReturn_b20 {p : Program} {l : Launch} {e : Env} {s : State} {m : MethodId} {args : Array Value} {below : List Frame} {meth : Method} {c : Code} {D : va_G} {cA : Nat → ClassId} {hs : Nat → Nat} {z : gw_Sh} (F : Nat) {r0 : gw_St} (C : gw_Cx p s m args c gb_Hands_alsoReturn 2 R_Hands D cA) (hr : meth.sig.returnType = none) (hk : meth.locks = false) (u : gw_St)   {H : Heap} {locs : List Loc} {ls : Array Slot} (hW : gw_Wx D cA hs z s u H locs) (hl : lv_has ls 2 []) (h : gf_Hands_alsoReturn_b20 F z   u  = some r0) : gw_Gv p l e gr_Hands_alsoReturn s m args below meth c D cA hs z r0 H locs ls 20 [] := by
  obtain ⟨hx, hb, hml, hown, hts, hK⟩ := id C
  unfold gf_Hands_alsoReturn_b20 at h
  obtain rfl := Option.some.inj h
  exact gw_vret C hW hr hk gd_Hands_alsoReturn_20

set_option maxHeartbeats 4000000 in
set_option maxRecDepth 20000 in
theorem gx_Hands_alsoReturn_b0 {p : Program} {l : Launch} {e : Env} {s : State} {m : MethodId} {args : Array Value} {below : List Frame} {meth : Method} {c : Code} {D : va_G} {cA : Nat → ClassId} {hs : Nat → Nat} {z : gw_Sh} (F : Nat) {r0 : gw_St} (C : gw_Cx p s m args c gb_Hands_alsoReturn 2 R_Hands D cA) (hr : meth.sig.returnType = none) (hk : meth.locks = false) (u : gw_St) (t0 : Nat) (t1 : Nat) (o_t0 : gw_ok z t0 5) (o_t1 : gw_ok z t1 6) {H : Heap} {locs : List Loc} {ls : Array Slot} (hW : gw_Wx D cA hs z s u H locs) (hl : lv_has ls 2 [(0, .ref (hs t0)), (1, .ref (hs t1))]) (h : gf_Hands_alsoReturn_b0 F z   u t0 t1 = some r0) : gw_Gv p l e gr_Hands_alsoReturn s m args below meth c D cA hs z r0 H locs ls 0 [] := by
  obtain ⟨hx, hb, hml, hown, hts, hK⟩ := id C
  unfold gf_Hands_alsoReturn_b0 at h
  refine lv_aload_n hx hb gd_Hands_alsoReturn_0 rfl (lv_at hl 1 rfl) ?_
  obtain ⟨q1, e2, h⟩ := gf_nn_ok h
  refine gw_getr (k := 0) (ty := 8) (ref := R_Fraction) C hW o_t1 (by decide) rfl gi_Fraction rfl (by decide) rfl rfl gk_328 gd_Hands_alsoReturn_1 e2 ?_
  have o_q1 := hW.ref (d := 8) o_t1 e2 rfl
  refine gw_geti (k := 2) (ref := R_Whole) C hW o_q1 (by decide) rfl gi_Whole rfl (by decide) rfl rfl gk_341 gd_Hands_alsoReturn_4 ?_
  refine lv_if_eq (tgt := 20) hx hb gd_Hands_alsoReturn_7 (by decide) (fun c3 => ?_) (fun c3 => ?_)
  · have h := gf_t c3 h
    exact gx_Hands_alsoReturn_b20 F C hr hk  u   hW (lv_sub hl [] rfl) h
  · have h := gf_f c3 h
    refine lv_aload_n hx hb gd_Hands_alsoReturn_10 rfl (lv_at hl 0 rfl) ?_
    obtain ⟨q4, e5, h⟩ := gf_nn_ok h
    refine gw_getr (k := 1) (ty := 6) (ref := R_Hands) C hW o_t0 (by decide) rfl gi_Hands rfl (by decide) rfl rfl gk_327 gd_Hands_alsoReturn_11 e5 ?_
    have o_q4 := hW.ref (d := 6) o_t0 e5 rfl
    obtain ⟨a8, u6, d7, h⟩ := gf_cl_ok h
    refine gw_callVi (K := R_Fraction) (As := []) (rest := []) C hW (fun _ h => Or.inr h) hl.1 gm_Fraction_isTooLarge (gc_Fraction_isTooLarge l F o_q4 d7 _) gk_347 gk_315 gk_316 o_q4 (by decide) rfl rfl rfl ⟨Nat.le_of_ble_eq_true rfl, Nat.le_of_ble_eq_true rfl⟩ ⟨Nat.zero_le _, Nat.zero_le _⟩ rfl rfl (Nat.le_of_ble_eq_true rfl) gd_Hands_alsoReturn_14 (fun H locs hW => ?_)
    refine lv_if_eq (tgt := 21) hx hb gd_Hands_alsoReturn_17 (by decide) (fun c9 => ?_) (fun c9 => ?_)
    · have h := gf_t c9 h
      refine lv_aload_n hx hb gd_Hands_alsoReturn_21 rfl (lv_at hl 0 rfl) ?_
      obtain ⟨q10, e11, h⟩ := gf_nn_ok h
      refine gw_getr (k := 0) (ty := 7) (ref := R_Hands) C hW o_t0 (by decide) rfl gi_Hands rfl (by decide) rfl rfl gk_331 gd_Hands_alsoReturn_22 e11 ?_
      have o_q10 := hW.ref (d := 7) o_t0 e11 rfl
      refine lv_aload_n hx hb gd_Hands_alsoReturn_25 rfl (lv_at hl 0 rfl) ?_
      obtain ⟨q12, e13, h⟩ := gf_nn_ok h
      refine gw_getr (k := 1) (ty := 6) (ref := R_Hands) C hW o_t0 (by decide) rfl gi_Hands rfl (by decide) rfl rfl gk_327 gd_Hands_alsoReturn_26 e13 ?_
      have o_q12 := hW.ref (d := 6) o_t0 e13 rfl
      obtain ⟨q14, e15, h⟩ := gf_nn_ok h
      refine gw_getr (k := 0) (ty := 8) (ref := R_Fraction) C hW o_q12 (by decide) rfl gi_Fraction rfl (by decide) rfl rfl gk_328 gd_Hands_alsoReturn_29 e15 ?_
      have o_q14 := hW.ref (d := 8) o_q12 e15 rfl
      refine lv_aload_n hx hb gd_Hands_alsoReturn_32 rfl (lv_at hl 1 rfl) ?_
      obtain ⟨q16, e17, h⟩ := gf_nn_ok h
      refine gw_getr (k := 1) (ty := 8) (ref := R_Fraction) C hW o_t1 (by decide) rfl gi_Fraction rfl (by decide) rfl rfl gk_332 gd_Hands_alsoReturn_33 e17 ?_
      have o_q16 := hW.ref (d := 8) o_t1 e17 rfl
      refine lv_aload_n hx hb gd_Hands_alsoReturn_36 rfl (lv_at hl 0 rfl) ?_
      obtain ⟨q18, e19, h⟩ := gf_nn_ok h
      refine gw_getr (k := 4) (ty := 8) (ref := R_Hands) C hW o_t0 (by decide) rfl gi_Hands rfl (by decide) rfl rfl gk_348 gd_Hands_alsoReturn_37 e19 ?_
      have o_q18 := hW.ref (d := 8) o_t0 e19 rfl
      obtain ⟨u20, d21, h⟩ := gf_bd_ok h
      refine gw_callVv (K := R_Calculator) (As := [.ref (hs q14), .ref (hs q16), .ref (hs q18)]) (rest := []) C hW (fun _ h => Or.inr h) hl.1 gm_Calculator_findDivisor (gc_Calculator_findDivisor l F o_q10 o_q14 o_q16 o_q18 d21 _) gk_349 gk_105 gk_106 o_q10 (by decide) rfl rfl rfl ⟨Nat.le_of_ble_eq_true rfl, Nat.le_of_ble_eq_true rfl⟩ ⟨Nat.zero_le _, Nat.zero_le _⟩ rfl rfl (Nat.le_of_ble_eq_true rfl) gd_Hands_alsoReturn_40 (fun H locs hW => ?_)
      refine lv_aload_n hx hb gd_Hands_alsoReturn_43 rfl (lv_at hl 0 rfl) ?_
      obtain ⟨q22, e23, h⟩ := gf_nn_ok h
      refine gw_getr (k := 0) (ty := 7) (ref := R_Hands) C hW o_t0 (by decide) rfl gi_Hands rfl (by decide) rfl rfl gk_331 gd_Hands_alsoReturn_44 e23 ?_
      have o_q22 := hW.ref (d := 7) o_t0 e23 rfl
      refine lv_aload_n hx hb gd_Hands_alsoReturn_47 rfl (lv_at hl 0 rfl) ?_
      obtain ⟨q24, e25, h⟩ := gf_nn_ok h
      refine gw_getr (k := 1) (ty := 6) (ref := R_Hands) C hW o_t0 (by decide) rfl gi_Hands rfl (by decide) rfl rfl gk_327 gd_Hands_alsoReturn_48 e25 ?_
      have o_q24 := hW.ref (d := 6) o_t0 e25 rfl
      obtain ⟨q26, e27, h⟩ := gf_nn_ok h
      refine gw_getr (k := 0) (ty := 8) (ref := R_Fraction) C hW o_q24 (by decide) rfl gi_Fraction rfl (by decide) rfl rfl gk_328 gd_Hands_alsoReturn_51 e27 ?_
      have o_q26 := hW.ref (d := 8) o_q24 e27 rfl
      refine lv_aload_n hx hb gd_Hands_alsoReturn_54 rfl (lv_at hl 0 rfl) ?_
      obtain ⟨q28, e29, h⟩ := gf_nn_ok h
      refine gw_getr (k := 4) (ty := 8) (ref := R_Hands) C hW o_t0 (by decide) rfl gi_Hands rfl (by decide) rfl rfl gk_348 gd_Hands_alsoReturn_55 e29 ?_
      have o_q28 := hW.ref (d := 8) o_t0 e29 rfl
      obtain ⟨u30, d31, h⟩ := gf_bd_ok h
      refine gw_callVv (K := R_Calculator) (As := [.ref (hs q26), .ref (hs q28)]) (rest := []) C hW (fun _ h => Or.inr h) hl.1 gm_Calculator_divide (gc_Calculator_divide l F o_q22 o_q26 o_q28 d31 _) gk_333 gk_98 gk_99 o_q22 (by decide) rfl rfl rfl ⟨Nat.le_of_ble_eq_true rfl, Nat.le_of_ble_eq_true rfl⟩ ⟨Nat.zero_le _, Nat.zero_le _⟩ rfl rfl (Nat.le_of_ble_eq_true rfl) gd_Hands_alsoReturn_58 (fun H locs hW => ?_)
      refine lv_aload_n hx hb gd_Hands_alsoReturn_61 rfl (lv_at hl 0 rfl) ?_
      obtain ⟨q32, e33, h⟩ := gf_nn_ok h
      refine gw_getr (k := 1) (ty := 6) (ref := R_Hands) C hW o_t0 (by decide) rfl gi_Hands rfl (by decide) rfl rfl gk_327 gd_Hands_alsoReturn_62 e33 ?_
      have o_q32 := hW.ref (d := 6) o_t0 e33 rfl
      obtain ⟨q34, e35, h⟩ := gf_nn_ok h
      refine gw_getr (k := 0) (ty := 8) (ref := R_Fraction) C hW o_q32 (by decide) rfl gi_Fraction rfl (by decide) rfl rfl gk_328 gd_Hands_alsoReturn_65 e35 ?_
      have o_q34 := hW.ref (d := 8) o_q32 e35 rfl
      refine lv_aload_n hx hb gd_Hands_alsoReturn_68 rfl (lv_at hl 0 rfl) ?_
      obtain ⟨q36, e37, h⟩ := gf_nn_ok h
      refine gw_getr (k := 0) (ty := 7) (ref := R_Hands) C hW o_t0 (by decide) rfl gi_Hands rfl (by decide) rfl rfl gk_331 gd_Hands_alsoReturn_69 e37 ?_
      have o_q36 := hW.ref (d := 7) o_t0 e37 rfl
      obtain ⟨q38, e39, h⟩ := gf_nn_ok h
      refine gw_getr (k := 0) (ty := 8) (ref := R_Calculator) C hW o_q36 (by decide) rfl gi_Calculator rfl (by decide) rfl rfl gk_336 gd_Hands_alsoReturn_72 e39 ?_
      have o_q38 := hW.ref (d := 8) o_q36 e39 rfl
      refine lv_aload_n hx hb gd_Hands_alsoReturn_75 rfl (lv_at hl 1 rfl) ?_
      obtain ⟨q40, e41, h⟩ := gf_nn_ok h
      refine gw_getr (k := 1) (ty := 8) (ref := R_Fraction) C hW o_t1 (by decide) rfl gi_Fraction rfl (by decide) rfl rfl gk_332 gd_Hands_alsoReturn_76 e41 ?_
      have o_q40 := hW.ref (d := 8) o_t1 e41 rfl
      obtain ⟨u42, d43, h⟩ := gf_bd_ok h
      refine gw_callVv (K := R_Whole) (As := [.ref (hs q38), .ref (hs q40)]) (rest := []) C hW (fun _ h => Or.inr h) hl.1 gm_Whole_setProduct (gc_Whole_setProduct l F o_q34 o_q38 o_q40 d43 _) gk_330 gk_262 gk_263 o_q34 (by decide) rfl rfl rfl ⟨Nat.le_of_ble_eq_true rfl, Nat.le_of_ble_eq_true rfl⟩ ⟨Nat.zero_le _, Nat.zero_le _⟩ rfl rfl (Nat.le_of_ble_eq_true rfl) gd_Hands_alsoReturn_79 (fun H locs hW => ?_)
      refine lv_aload_n hx hb gd_Hands_alsoReturn_82 rfl (lv_at hl 0 rfl) ?_
      obtain ⟨q44, e45, h⟩ := gf_nn_ok h
      refine gw_getr (k := 0) (ty := 7) (ref := R_Hands) C hW o_t0 (by decide) rfl gi_Hands rfl (by decide) rfl rfl gk_331 gd_Hands_alsoReturn_83 e45 ?_
      have o_q44 := hW.ref (d := 7) o_t0 e45 rfl
      refine lv_aload_n hx hb gd_Hands_alsoReturn_86 rfl (lv_at hl 0 rfl) ?_
      obtain ⟨q46, e47, h⟩ := gf_nn_ok h
      refine gw_getr (k := 1) (ty := 6) (ref := R_Hands) C hW o_t0 (by decide) rfl gi_Hands rfl (by decide) rfl rfl gk_327 gd_Hands_alsoReturn_87 e47 ?_
      have o_q46 := hW.ref (d := 6) o_t0 e47 rfl
      obtain ⟨q48, e49, h⟩ := gf_nn_ok h
      refine gw_getr (k := 1) (ty := 8) (ref := R_Fraction) C hW o_q46 (by decide) rfl gi_Fraction rfl (by decide) rfl rfl gk_332 gd_Hands_alsoReturn_90 e49 ?_
      have o_q48 := hW.ref (d := 8) o_q46 e49 rfl
      refine lv_aload_n hx hb gd_Hands_alsoReturn_93 rfl (lv_at hl 1 rfl) ?_
      obtain ⟨q50, e51, h⟩ := gf_nn_ok h
      refine gw_getr (k := 0) (ty := 8) (ref := R_Fraction) C hW o_t1 (by decide) rfl gi_Fraction rfl (by decide) rfl rfl gk_328 gd_Hands_alsoReturn_94 e51 ?_
      have o_q50 := hW.ref (d := 8) o_t1 e51 rfl
      refine lv_aload_n hx hb gd_Hands_alsoReturn_97 rfl (lv_at hl 0 rfl) ?_
      obtain ⟨q52, e53, h⟩ := gf_nn_ok h
      refine gw_getr (k := 4) (ty := 8) (ref := R_Hands) C hW o_t0 (by decide) rfl gi_Hands rfl (by decide) rfl rfl gk_348 gd_Hands_alsoReturn_98 e53 ?_
      have o_q52 := hW.ref (d := 8) o_t0 e53 rfl
      obtain ⟨u54, d55, h⟩ := gf_bd_ok h
      refine gw_callVv (K := R_Calculator) (As := [.ref (hs q48), .ref (hs q50), .ref (hs q52)]) (rest := []) C hW (fun _ h => Or.inr h) hl.1 gm_Calculator_findDivisor (gc_Calculator_findDivisor l F o_q44 o_q48 o_q50 o_q52 d55 _) gk_349 gk_105 gk_106 o_q44 (by decide) rfl rfl rfl ⟨Nat.le_of_ble_eq_true rfl, Nat.le_of_ble_eq_true rfl⟩ ⟨Nat.zero_le _, Nat.zero_le _⟩ rfl rfl (Nat.le_of_ble_eq_true rfl) gd_Hands_alsoReturn_101 (fun H locs hW => ?_)
      refine lv_aload_n hx hb gd_Hands_alsoReturn_104 rfl (lv_at hl 0 rfl) ?_
      obtain ⟨q56, e57, h⟩ := gf_nn_ok h
      refine gw_getr (k := 1) (ty := 6) (ref := R_Hands) C hW o_t0 (by decide) rfl gi_Hands rfl (by decide) rfl rfl gk_327 gd_Hands_alsoReturn_105 e57 ?_
      have o_q56 := hW.ref (d := 6) o_t0 e57 rfl
      obtain ⟨q58, e59, h⟩ := gf_nn_ok h
      refine gw_getr (k := 1) (ty := 8) (ref := R_Fraction) C hW o_q56 (by decide) rfl gi_Fraction rfl (by decide) rfl rfl gk_332 gd_Hands_alsoReturn_108 e59 ?_
      have o_q58 := hW.ref (d := 8) o_q56 e59 rfl
      refine lv_aload_n hx hb gd_Hands_alsoReturn_111 rfl (lv_at hl 0 rfl) ?_
      obtain ⟨q60, e61, h⟩ := gf_nn_ok h
      refine gw_getr (k := 4) (ty := 8) (ref := R_Hands) C hW o_t0 (by decide) rfl gi_Hands rfl (by decide) rfl rfl gk_348 gd_Hands_alsoReturn_112 e61 ?_
      have o_q60 := hW.ref (d := 8) o_t0 e61 rfl
      obtain ⟨u62, d63, h⟩ := gf_bd_ok h
      refine gw_callVv (K := R_Whole) (As := [.ref (hs q60)]) (rest := []) C hW (fun _ h => Or.inr h) hl.1 gm_Whole_copyFrom (gc_Whole_copyFrom l F o_q58 o_q60 d63 _) gk_335 gk_62 gk_63 o_q58 (by decide) rfl rfl rfl ⟨Nat.le_of_ble_eq_true rfl, Nat.le_of_ble_eq_true rfl⟩ ⟨Nat.zero_le _, Nat.zero_le _⟩ rfl rfl (Nat.le_of_ble_eq_true rfl) gd_Hands_alsoReturn_115 (fun H locs hW => ?_)
      obtain rfl := Option.some.inj h
      exact gw_vret C hW hr hk gd_Hands_alsoReturn_118
    · have h := gf_f c9 h
      exact gx_Hands_alsoReturn_b20 F C hr hk  u6   hW (lv_sub hl [] rfl) h

set_option maxRecDepth 20000 in
theorem gc_Hands_alsoReturn (l : Launch) {D : va_G} {cA : Nat → ClassId} {hs : Nat → Nat} {z : gw_Sh} (F : Nat) {u : gw_St} {r0 : gw_St} {t0 : Nat} {t1 : Nat} (o_t0 : gw_ok z t0 5) (o_t1 : gw_ok z t1 6) (h : gf_Hands_alsoReturn F z u t0 t1 = some r0) (sz : Nat) : gw_Mv l gy_Hands_alsoReturn gb_Hands_alsoReturn 2 none gr_Hands_alsoReturn [.ref (hs t0), .ref (hs t1)] D cA hs z u sz r0 := by
  refine gw_enter (by decide) (Nat.le_of_ble_eq_true rfl) ?_
  intro p e s m below meth c ls hsz C hW hr hk _ hl
  subst hsz
  exact gx_Hands_alsoReturn_b0 F C hr hk u t0 t1 o_t0 o_t1 hW (lv_sub hl [0, 1] rfl) h
-- GearDesk$Hands.anyReturns()Z
def gy_Hands_anyReturns : MethodName := ⟨R_Hands, "anyReturns", "()Z"⟩
abbrev gb_Hands_anyReturns : ByteArray := prog_5_method_6_code
theorem gk_351 : Cond.code gy_Hands_anyReturns gb_Hands_anyReturns 1 (some .boolean) ∈ gt_T := gt_m6 (List.mem_of_getElem? (i := 31) rfl) rfl
def gr_Hands_anyReturns : Room := gw_rm 1 64
theorem gm_Hands_anyReturns : gw_Mth gy_Hands_anyReturns gb_Hands_anyReturns 1 (some .boolean) 0 := ⟨gk_351, gk_343, ⟨by decide +kernel, by decide +kernel⟩, by decide +kernel⟩
theorem gd_Hands_anyReturns_0 : decode gb_Hands_anyReturns 0 = .ok (.aload_n 0, 1) := by decide +kernel
theorem gd_Hands_anyReturns_1 : decode gb_Hands_anyReturns 1 = .ok (.getfield 20, 3) := by decide +kernel
theorem gd_Hands_anyReturns_4 : decode gb_Hands_anyReturns 4 = .ok (.getfield 41, 3) := by decide +kernel
theorem gd_Hands_anyReturns_7 : decode gb_Hands_anyReturns 7 = .ok (.getfield 61, 3) := by decide +kernel
theorem gd_Hands_anyReturns_10 : decode gb_Hands_anyReturns 10 = .ok (.ifCond .eq 7, 3) := by decide +kernel
theorem gd_Hands_anyReturns_13 : decode gb_Hands_anyReturns 13 = .ok (.iconst 1, 1) := by decide +kernel
theorem gd_Hands_anyReturns_14 : decode gb_Hands_anyReturns 14 = .ok (.goto 4, 3) := by decide +kernel
theorem gd_Hands_anyReturns_17 : decode gb_Hands_anyReturns 17 = .ok (.iconst 0, 1) := by decide +kernel
theorem gd_Hands_anyReturns_18 : decode gb_Hands_anyReturns 18 = .ok (.ireturn, 1) := by decide +kernel
def gf_Hands_anyReturns_b18 (F : Nat) (z : gw_Sh)  (u : gw_St) (sx0 : Int32) : Option (Int32 × gw_St) :=
  if ¬ (sx0 &&& 1 = sx0) then none else some (sx0, u)
def gf_Hands_anyReturns_b0 (F : Nat) (z : gw_Sh)  (u : gw_St) (t0 : Nat) : Option (Int32 × gw_St) :=
  gf_nn (u.2.2 t0 1) fun q2 => gf_nn (u.2.2 q2 1) fun q4 => if (u.1 q4 2) = 0 then (gf_Hands_anyReturns_b18 F z  u 0) else (gf_Hands_anyReturns_b18 F z  u 1)
def gf_Hands_anyReturns (F : Nat) (z : gw_Sh) (u : gw_St) (t0 : Nat) : Option (Int32 × gw_St) := gf_Hands_anyReturns_b0 F z  u t0
set_option maxHeartbeats 4000000 in
set_option maxRecDepth 20000 in
theorem gx_Hands_anyReturns_b18 {p : Program} {l : Launch} {e : Env} {s : State} {m : MethodId} {args : Array Value} {below : List Frame} {meth : Method} {c : Code} {D : va_G} {cA : Nat → ClassId} {hs : Nat → Nat} {z : gw_Sh} (F : Nat) {r0 : (Int32 × gw_St)} (C : gw_Cx p s m args c gb_Hands_anyReturns 1 R_Hands D cA) (hr : meth.sig.returnType = (some .boolean)) (hk : meth.locks = false) (u : gw_St) (sx0 : Int32)  {H : Heap} {locs : List Loc} {ls : Array Slot} (hW : gw_Wx D cA hs z s u H locs) (hl : lv_has ls 1 []) (h : gf_Hands_anyReturns_b18 F z   u sx0 = some r0) : gw_Gi p l e gr_Hands_anyReturns s m args below meth c D cA hs z r0 H locs ls 18 [.int sx0] := by
  obtain ⟨hx, hb, hml, hown, hts, hK⟩ := id C
  unfold gf_Hands_anyReturns_b18 at h
  obtain ⟨g1, h⟩ := gf_if_ok h
  obtain rfl := Option.some.inj h
  exact gw_zret C hW hr (Decidable.not_not.mp g1) hk gd_Hands_anyReturns_18

set_option maxHeartbeats 4000000 in
set_option maxRecDepth 20000 in
theorem gx_Hands_anyReturns_b0 {p : Program} {l : Launch} {e : Env} {s : State} {m : MethodId} {args : Array Value} {below : List Frame} {meth : Method} {c : Code} {D : va_G} {cA : Nat → ClassId} {hs : Nat → Nat} {z : gw_Sh} (F : Nat) {r0 : (Int32 × gw_St)} (C : gw_Cx p s m args c gb_Hands_anyReturns 1 R_Hands D cA) (hr : meth.sig.returnType = (some .boolean)) (hk : meth.locks = false) (u : gw_St) (t0 : Nat) (o_t0 : gw_ok z t0 5) {H : Heap} {locs : List Loc} {ls : Array Slot} (hW : gw_Wx D cA hs z s u H locs) (hl : lv_has ls 1 [(0, .ref (hs t0))]) (h : gf_Hands_anyReturns_b0 F z   u t0 = some r0) : gw_Gi p l e gr_Hands_anyReturns s m args below meth c D cA hs z r0 H locs ls 0 [] := by
  obtain ⟨hx, hb, hml, hown, hts, hK⟩ := id C
  unfold gf_Hands_anyReturns_b0 at h
  refine lv_aload_n hx hb gd_Hands_anyReturns_0 rfl (lv_at hl 0 rfl) ?_
  obtain ⟨q2, e3, h⟩ := gf_nn_ok h
  refine gw_getr (k := 1) (ty := 6) (ref := R_Hands) C hW o_t0 (by decide) rfl gi_Hands rfl (by decide) rfl rfl gk_327 gd_Hands_anyReturns_1 e3 ?_
  have o_q2 := hW.ref (d := 6) o_t0 e3 rfl
  obtain ⟨q4, e5, h⟩ := gf_nn_ok h
  refine gw_getr (k := 1) (ty := 8) (ref := R_Fraction) C hW o_q2 (by decide) rfl gi_Fraction rfl (by decide) rfl rfl gk_332 gd_Hands_anyReturns_4 e5 ?_
  have o_q4 := hW.ref (d := 8) o_q2 e5 rfl
  refine gw_geti (k := 2) (ref := R_Whole) C hW o_q4 (by decide) rfl gi_Whole rfl (by decide) rfl rfl gk_341 gd_Hands_anyReturns_7 ?_
  refine lv_if_eq (tgt := 17) hx hb gd_Hands_anyReturns_10 (by decide) (fun c6 => ?_) (fun c6 => ?_)
  · have h := gf_t c6 h
    refine lv_iconst (v := 0) hx hb gd_Hands_anyReturns_17 (by decide) ?_
    exact gx_Hands_anyReturns_b18 F C hr hk  u 0  hW (lv_sub hl [] rfl) h
  · have h := gf_f c6 h
    refine lv_iconst (v := 1) hx hb gd_Hands_anyReturns_13 (by decide) ?_
    refine lv_goto (tgt := 18) hx hb gd_Hands_anyReturns_14 (by decide) ?_
    exact gx_Hands_anyReturns_b18 F C hr hk  u 1  hW (lv_sub hl [] rfl) h

set_option maxRecDepth 20000 in
theorem gc_Hands_anyReturns (l : Launch) {D : va_G} {cA : Nat → ClassId} {hs : Nat → Nat} {z : gw_Sh} (F : Nat) {u : gw_St} {r0 : (Int32 × gw_St)} {t0 : Nat} (o_t0 : gw_ok z t0 5) (h : gf_Hands_anyReturns F z u t0 = some r0) (sz : Nat) : gw_Mi l gy_Hands_anyReturns gb_Hands_anyReturns 1 (some .boolean) gr_Hands_anyReturns [.ref (hs t0)] D cA hs z u sz r0 := by
  refine gw_enter (by decide) (Nat.le_of_ble_eq_true rfl) ?_
  intro p e s m below meth c ls hsz C hW hr hk _ hl
  subst hsz
  exact gx_Hands_anyReturns_b0 F C hr hk u t0 o_t0 hW (lv_sub hl [0] rfl) h
