-- GearDesk.<init>()V
theorem gk_837 : Cond.methodLink R_Desk 1 Lib.objectInit ∈ gt_T := gt_m1 (List.mem_of_getElem? (i := 36) rfl) rfl
theorem gk_838 : Cond.classLink R_Desk 7 R_Trains ∈ gt_T := gt_m1 (List.mem_of_getElem? (i := 39) rfl) rfl
theorem gk_839 : Cond.instantiable R_Trains 17 ∈ gt_T := gt_m1 (List.mem_of_getElem? (i := 40) rfl) rfl
theorem gk_840 : Cond.methodLink R_Desk 9 gy_Trains_init ∈ gt_T := gt_m1 (List.mem_of_getElem? (i := 41) rfl) rfl
theorem gk_841 : Cond.instanceMethod gy_Trains_init ∈ gt_T := gt_m1 (List.mem_of_getElem? (i := 42) rfl) rfl
theorem gk_842 : Cond.classLink R_Desk 16 R_Works ∈ gt_T := gt_m1 (List.mem_of_getElem? (i := 101) rfl) rfl
theorem gk_843 : Cond.instantiable R_Works 5 ∈ gt_T := gt_m1 (List.mem_of_getElem? (i := 102) rfl) rfl
theorem gk_844 : Cond.methodLink R_Desk 18 gy_Works_init ∈ gt_T := gt_m1 (List.mem_of_getElem? (i := 103) rfl) rfl
theorem gk_845 : Cond.instanceMethod gy_Works_init ∈ gt_T := gt_m1 (List.mem_of_getElem? (i := 104) rfl) rfl
theorem gk_846 : Cond.classLink R_Desk 23 R_Calculator ∈ gt_T := gt_m1 (List.mem_of_getElem? (i := 131) rfl) rfl
theorem gk_847 : Cond.instantiable R_Calculator 6 ∈ gt_T := gt_m1 (List.mem_of_getElem? (i := 132) rfl) rfl
theorem gk_848 : Cond.methodLink R_Desk 25 gy_Calculator_init ∈ gt_T := gt_m1 (List.mem_of_getElem? (i := 133) rfl) rfl
theorem gk_849 : Cond.instanceMethod gy_Calculator_init ∈ gt_T := gt_m1 (List.mem_of_getElem? (i := 134) rfl) rfl
theorem gk_850 : Cond.classLink R_Desk 26 R_Equations ∈ gt_T := gt_m1 (List.mem_of_getElem? (i := 183) rfl) rfl
theorem gk_851 : Cond.instantiable R_Equations 17 ∈ gt_T := gt_m1 (List.mem_of_getElem? (i := 184) rfl) rfl
theorem gk_852 : Cond.methodLink R_Desk 28 gy_Equations_init ∈ gt_T := gt_m1 (List.mem_of_getElem? (i := 185) rfl) rfl
theorem gk_853 : Cond.instanceMethod gy_Equations_init ∈ gt_T := gt_m1 (List.mem_of_getElem? (i := 186) rfl) rfl
theorem gk_854 : Cond.classLink R_Desk 35 R_Hands ∈ gt_T := gt_m2 (List.mem_of_getElem? (i := 27) rfl) rfl
theorem gk_855 : Cond.instantiable R_Hands 5 ∈ gt_T := gt_m2 (List.mem_of_getElem? (i := 28) rfl) rfl
theorem gk_856 : Cond.methodLink R_Desk 37 gy_Hands_init ∈ gt_T := gt_m2 (List.mem_of_getElem? (i := 29) rfl) rfl
theorem gk_857 : Cond.instanceMethod gy_Hands_init ∈ gt_T := gt_m2 (List.mem_of_getElem? (i := 30) rfl) rfl
theorem gk_858 : Cond.classLink R_Desk 49 R_Fraction ∈ gt_T := gt_m2 (List.mem_of_getElem? (i := 54) rfl) rfl
theorem gk_859 : Cond.methodLink R_Desk 51 gy_Fraction_init ∈ gt_T := gt_m2 (List.mem_of_getElem? (i := 55) rfl) rfl
theorem gk_860 : Cond.methodLink R_Desk 62 gy_Whole_setLong ∈ gt_T := gt_m2 (List.mem_of_getElem? (i := 56) rfl) rfl
theorem gk_861 : Cond.classLink R_Desk 68 R_Speeds ∈ gt_T := gt_m2 (List.mem_of_getElem? (i := 71) rfl) rfl
theorem gk_862 : Cond.instantiable R_Speeds 2 ∈ gt_T := gt_m2 (List.mem_of_getElem? (i := 72) rfl) rfl
theorem gk_863 : Cond.methodLink R_Desk 70 gy_Speeds_init ∈ gt_T := gt_m2 (List.mem_of_getElem? (i := 73) rfl) rfl
theorem gk_864 : Cond.instanceMethod gy_Speeds_init ∈ gt_T := gt_m2 (List.mem_of_getElem? (i := 74) rfl) rfl
def gy_Desk_init : MethodName := ⟨R_Desk, "<init>", "()V"⟩
abbrev gb_Desk_init : ByteArray := prog_1_method_1_code
theorem gk_865 : Cond.code gy_Desk_init gb_Desk_init 2 none ∈ gt_T := gt_m1 (List.mem_of_getElem? (i := 35) rfl) rfl
theorem gm_Desk_init : gw_Mth gy_Desk_init gb_Desk_init 2 none 0 := ⟨gk_865, gk_361, ⟨by decide +kernel, by decide +kernel⟩, by decide +kernel⟩
theorem gd_Desk_init_0 : decode gb_Desk_init 0 = .ok (.aload_n 0, 1) := by decide +kernel
theorem gd_Desk_init_1 : decode gb_Desk_init 1 = .ok (.invokespecial 1, 3) := by decide +kernel
theorem gd_Desk_init_4 : decode gb_Desk_init 4 = .ok (.aload_n 0, 1) := by decide +kernel
theorem gd_Desk_init_5 : decode gb_Desk_init 5 = .ok (.new 7, 3) := by decide +kernel
theorem gd_Desk_init_8 : decode gb_Desk_init 8 = .ok (.dup, 1) := by decide +kernel
theorem gd_Desk_init_9 : decode gb_Desk_init 9 = .ok (.invokespecial 9, 3) := by decide +kernel
theorem gd_Desk_init_12 : decode gb_Desk_init 12 = .ok (.putfield 10, 3) := by decide +kernel
theorem gd_Desk_init_15 : decode gb_Desk_init 15 = .ok (.aload_n 0, 1) := by decide +kernel
theorem gd_Desk_init_16 : decode gb_Desk_init 16 = .ok (.new 16, 3) := by decide +kernel
theorem gd_Desk_init_19 : decode gb_Desk_init 19 = .ok (.dup, 1) := by decide +kernel
theorem gd_Desk_init_20 : decode gb_Desk_init 20 = .ok (.invokespecial 18, 3) := by decide +kernel
theorem gd_Desk_init_23 : decode gb_Desk_init 23 = .ok (.putfield 19, 3) := by decide +kernel
theorem gd_Desk_init_26 : decode gb_Desk_init 26 = .ok (.new 23, 3) := by decide +kernel
theorem gd_Desk_init_29 : decode gb_Desk_init 29 = .ok (.dup, 1) := by decide +kernel
theorem gd_Desk_init_30 : decode gb_Desk_init 30 = .ok (.invokespecial 25, 3) := by decide +kernel
theorem gd_Desk_init_33 : decode gb_Desk_init 33 = .ok (.astore_n 1, 1) := by decide +kernel
theorem gd_Desk_init_34 : decode gb_Desk_init 34 = .ok (.aload_n 0, 1) := by decide +kernel
theorem gd_Desk_init_35 : decode gb_Desk_init 35 = .ok (.new 26, 3) := by decide +kernel
theorem gd_Desk_init_38 : decode gb_Desk_init 38 = .ok (.dup, 1) := by decide +kernel
theorem gd_Desk_init_39 : decode gb_Desk_init 39 = .ok (.aload_n 1, 1) := by decide +kernel
theorem gd_Desk_init_40 : decode gb_Desk_init 40 = .ok (.invokespecial 28, 3) := by decide +kernel
theorem gd_Desk_init_43 : decode gb_Desk_init 43 = .ok (.putfield 31, 3) := by decide +kernel
theorem gd_Desk_init_46 : decode gb_Desk_init 46 = .ok (.aload_n 0, 1) := by decide +kernel
theorem gd_Desk_init_47 : decode gb_Desk_init 47 = .ok (.new 35, 3) := by decide +kernel
theorem gd_Desk_init_50 : decode gb_Desk_init 50 = .ok (.dup, 1) := by decide +kernel
theorem gd_Desk_init_51 : decode gb_Desk_init 51 = .ok (.aload_n 1, 1) := by decide +kernel
theorem gd_Desk_init_52 : decode gb_Desk_init 52 = .ok (.invokespecial 37, 3) := by decide +kernel
theorem gd_Desk_init_55 : decode gb_Desk_init 55 = .ok (.putfield 38, 3) := by decide +kernel
theorem gd_Desk_init_58 : decode gb_Desk_init 58 = .ok (.aload_n 0, 1) := by decide +kernel
theorem gd_Desk_init_59 : decode gb_Desk_init 59 = .ok (.bipush 12, 2) := by decide +kernel
theorem gd_Desk_init_61 : decode gb_Desk_init 61 = .ok (.newarray .int, 2) := by decide +kernel
theorem gd_Desk_init_63 : decode gb_Desk_init 63 = .ok (.putfield 42, 3) := by decide +kernel
theorem gd_Desk_init_66 : decode gb_Desk_init 66 = .ok (.aload_n 0, 1) := by decide +kernel
theorem gd_Desk_init_67 : decode gb_Desk_init 67 = .ok (.bipush 12, 2) := by decide +kernel
theorem gd_Desk_init_69 : decode gb_Desk_init 69 = .ok (.newarray .int, 2) := by decide +kernel
theorem gd_Desk_init_71 : decode gb_Desk_init 71 = .ok (.putfield 46, 3) := by decide +kernel
theorem gd_Desk_init_74 : decode gb_Desk_init 74 = .ok (.aload_n 0, 1) := by decide +kernel
theorem gd_Desk_init_75 : decode gb_Desk_init 75 = .ok (.new 49, 3) := by decide +kernel
theorem gd_Desk_init_78 : decode gb_Desk_init 78 = .ok (.dup, 1) := by decide +kernel
theorem gd_Desk_init_79 : decode gb_Desk_init 79 = .ok (.bipush 9, 2) := by decide +kernel
theorem gd_Desk_init_81 : decode gb_Desk_init 81 = .ok (.invokespecial 51, 3) := by decide +kernel
theorem gd_Desk_init_84 : decode gb_Desk_init 84 = .ok (.putfield 54, 3) := by decide +kernel
theorem gd_Desk_init_87 : decode gb_Desk_init 87 = .ok (.aload_n 0, 1) := by decide +kernel
theorem gd_Desk_init_88 : decode gb_Desk_init 88 = .ok (.getfield 54, 3) := by decide +kernel
theorem gd_Desk_init_91 : decode gb_Desk_init 91 = .ok (.getfield 58, 3) := by decide +kernel
theorem gd_Desk_init_94 : decode gb_Desk_init 94 = .ok (.lconst 1, 1) := by decide +kernel
theorem gd_Desk_init_95 : decode gb_Desk_init 95 = .ok (.invokevirtual 62, 3) := by decide +kernel
theorem gd_Desk_init_98 : decode gb_Desk_init 98 = .ok (.aload_n 0, 1) := by decide +kernel
theorem gd_Desk_init_99 : decode gb_Desk_init 99 = .ok (.new 68, 3) := by decide +kernel
theorem gd_Desk_init_102 : decode gb_Desk_init 102 = .ok (.dup, 1) := by decide +kernel
theorem gd_Desk_init_103 : decode gb_Desk_init 103 = .ok (.invokespecial 70, 3) := by decide +kernel
theorem gd_Desk_init_106 : decode gb_Desk_init 106 = .ok (.putfield 71, 3) := by decide +kernel
theorem gd_Desk_init_109 : decode gb_Desk_init 109 = .ok (.aload_n 0, 1) := by decide +kernel
theorem gd_Desk_init_110 : decode gb_Desk_init 110 = .ok (.new 68, 3) := by decide +kernel
theorem gd_Desk_init_113 : decode gb_Desk_init 113 = .ok (.dup, 1) := by decide +kernel
theorem gd_Desk_init_114 : decode gb_Desk_init 114 = .ok (.invokespecial 70, 3) := by decide +kernel
theorem gd_Desk_init_117 : decode gb_Desk_init 117 = .ok (.putfield 75, 3) := by decide +kernel
theorem gd_Desk_init_120 : decode gb_Desk_init 120 = .ok (.aload_n 0, 1) := by decide +kernel
theorem gd_Desk_init_121 : decode gb_Desk_init 121 = .ok (.getfield 42, 3) := by decide +kernel
theorem gd_Desk_init_124 : decode gb_Desk_init 124 = .ok (.iconst (-1), 1) := by decide +kernel
theorem gd_Desk_init_125 : decode gb_Desk_init 125 = .ok (.invokestatic 78, 3) := by decide +kernel
theorem gd_Desk_init_128 : decode gb_Desk_init 128 = .ok (.return_, 1) := by decide +kernel
def gf_Desk_init_b0 (F : Nat) (z : gw_Sh)  (u : gw_St) (t0 : Nat) : Option (gw_Sh × gw_St) :=
  gf_nm (gw_nz z 1 0) fun z1 => gf_nm (gw_zr u z.1) fun u2 => gf_cz (gf_Trains_init F z1 u2 z.1) fun z6 u7 => gf_nm (gw_wr u7 t0 0 (z.1 + 1)) fun u9 => gf_nm (gw_nz z6 2 0) fun z11 => gf_nm (gw_zr u9 z6.1) fun u12 => gf_cz (gf_Works_init F z11 u12 z6.1) fun z16 u17 => gf_nm (gw_wr u17 t0 1 (z6.1 + 1)) fun u19 => gf_nm (gw_nz z16 7 0) fun z21 => gf_nm (gw_zr u19 z16.1) fun u22 => gf_cz (gf_Calculator_init F z21 u22 z16.1) fun z26 u27 => gf_nm (gw_nz z26 4 0) fun z29 => gf_nm (gw_zr u27 z26.1) fun u30 => gf_cz (gf_Equations_init F z29 u30 z26.1 z16.1) fun z34 u35 => gf_nm (gw_wr u35 t0 2 (z26.1 + 1)) fun u37 => gf_nm (gw_nz z34 5 0) fun z39 => gf_nm (gw_zr u37 z34.1) fun u40 => gf_cz (gf_Hands_init F z39 u40 z34.1 z16.1) fun z44 u45 => gf_nm (gw_wr u45 t0 3 (z34.1 + 1)) fun u47 => if ((12 : Int32) < 0 ∨ 60000000 < ((12 : Int32)).toNatClampNeg) then none else gf_nm (gw_nz z44 10 ((12 : Int32)).toNatClampNeg) fun z49 => gf_nm (gw_zr u47 z44.1) fun u50 => gf_nm (gw_wr u50 t0 4 (z44.1 + 1)) fun u55 => if ((12 : Int32) < 0 ∨ 60000000 < ((12 : Int32)).toNatClampNeg) then none else gf_nm (gw_nz z49 10 ((12 : Int32)).toNatClampNeg) fun z57 => gf_nm (gw_zr u55 z49.1) fun u58 => gf_nm (gw_wr u58 t0 5 (z49.1 + 1)) fun u63 => gf_nm (gw_nz z57 6 0) fun z65 => gf_nm (gw_zr u63 z57.1) fun u66 => gf_cz (gf_Fraction_init F z65 u66 z57.1 (9 : Int32)) fun z70 u71 => gf_nm (gw_wr u71 t0 6 (z57.1 + 1)) fun u73 => gf_nn (u73.2.2 t0 6) fun q75 => gf_nn (u73.2.2 q75 1) fun q77 => (gf_Whole_setLong F z70 u73 q77 (1 : Int64)).bind fun u79 => gf_nm (gw_nz z70 3 0) fun z81 => gf_nm (gw_zr u79 z70.1) fun u82 => gf_cz (gf_Speeds_init F z81 u82 z70.1) fun z86 u87 => gf_nm (gw_wr u87 t0 7 (z70.1 + 1)) fun u89 => gf_nm (gw_nz z86 3 0) fun z91 => gf_nm (gw_zr u89 z86.1) fun u92 => gf_cz (gf_Speeds_init F z91 u92 z86.1) fun z96 u97 => gf_nm (gw_wr u97 t0 8 (z86.1 + 1)) fun u99 => gf_nn (u99.2.2 t0 4) fun q101 => (gf_Arrays_fill1 F z96 u99 q101 (-1 : Int32)).bind fun u103 => some (z96, u103)
def gf_Desk_init (F : Nat) (z : gw_Sh) (u : gw_St) (t0 : Nat) : Option (gw_Sh × gw_St) := gf_Desk_init_b0 F z  u t0
set_option maxHeartbeats 4000000 in
set_option maxRecDepth 20000 in
theorem gx_Desk_init_b0 {p : Program} {l : Launch} {e : Env} {s : State} {m : MethodId} {args : Array Value} {below : List Frame} {meth : Method} {c : Code} {D : va_G} {cA : Nat → ClassId} {hs : Nat → Nat} {z z0 : gw_Sh} (F : Nat) {r0 : (gw_Sh × gw_St)} (C : gw_Cx p s m args c gb_Desk_init 2 R_Desk D cA) (hr : meth.sig.returnType = none) (hk : meth.locks = false) (hin : meth.name = "<init>") (hAO : va_AO R_Fraction s) {R : Room} (hR : 4 ≤ R.frames ∧ 127 ≤ R.locals ∧ 669 ≤ R.cells ∧ 165535 ≤ R.slots) (hh : ∀ j, hs (z0.1 + j) = s.heap.size + j) (hz : ∀ p d, gw_ok z0 p d → gw_ok z p d) (hzc : z.1 = z0.1 + 0) (u : gw_St) (t0 : Nat) (o_t0 : gw_ok z t0 0) {H : Heap} {locs : List Loc} {ls : Array Slot} (hW : gw_Wd D cA hs z (gw_A hs z0 s.heap.size) s.heap u H locs) (hl : lv_has ls 2 [(0, .ref (hs t0))]) (h : gf_Desk_init_b0 F z   u t0 = some r0) : gw_Gc p l e R s m args below meth c D cA hs z0 r0 669 165535 H locs 0 0 ls 0 [] := by
  obtain ⟨hx, hb, hml, hown, hts, hK⟩ := id C
  unfold gf_Desk_init_b0 at h
  refine lv_aload_n hx hb gd_Desk_init_0 rfl (lv_at hl 0 rfl) ?_
  refine W.objInit hx hb hown (hts _ gk_837) (hts _ gk_790) (hts _ gk_791) rfl (by rw [hml]; exact hl.1) rfl gd_Desk_init_1 (Nat.le_trans (m := 4) (Nat.le_of_ble_eq_true rfl) hR.1) (Nat.le_trans (m := 127) (Nat.le_of_ble_eq_true rfl) hR.2.1) ?_
  refine W.eq (g2 := F0 m 4 ls []) rfl ?_
  refine lv_aload_n hx hb gd_Desk_init_4 rfl (lv_at hl 0 rfl) ?_
  refine gw_frW hW hh hzc (fun hF => ?_)
  refine gw_new (ci := 1) C hW (fun _ h => Or.inr h) hF (by decide) rfl gi_Trains rfl tf_Trains tf_Trains_ok df_Trains gk_838 gk_839 gk_131 (Nat.le_trans (m := 669) (by decide +kernel) hR.2.2.1) (Nat.le_trans (m := 165535) (by decide +kernel) hR.2.2.2) gd_Desk_init_5 (fun z1 u2 H e3 e4 hW hF o5 hz9 => ?_)
  have h := gf_nm_ok e3 h
  have h := gf_nm_ok e4 h
  have o_t0 := hz9 _ _ o_t0
  have hz := fun p d h => hz9 p d (hz p d h)
  refine W.widen (k := 1) (n := 17) (by decide +kernel) (by decide +kernel) ?_
  have hzc : z1.1 = z0.1 + 1 := gw_hzc (b := z.1) (c := 1) (by rw [e3]; rfl) hzc (by decide)
  refine lv_dup hx hb gd_Desk_init_8 rfl ?_
  obtain ⟨z6, u7, d8, h⟩ := gf_cz_ok h
  refine gw_frW hW hh hzc (fun hF => ?_)
  refine gw_callI (As := []) (rest := [.ref (hs z.1), .ref (hs t0)]) C hAO hW (fun _ h => Or.inr h) hl.1 gm_Trains_init (gc_Trains_init l F o5 d8 _ hF) gk_840 gk_841 rfl rfl rfl ⟨(Nat.le_trans (m := 4) (Nat.le_of_ble_eq_true rfl) hR.1), (Nat.le_trans (m := 127) (Nat.le_of_ble_eq_true rfl) hR.2.1)⟩ ⟨(Nat.le_trans (m := 669) (by decide +kernel) hR.2.2.1), (Nat.le_trans (m := 165535) (by decide +kernel) hR.2.2.2)⟩ rfl rfl (Nat.le_of_ble_eq_true rfl) gd_Desk_init_9 (fun H locs hW hc9 hz9 => ?_)
  have o_t0 := hz9 _ _ o_t0
  have o5 := hz9 _ _ o5
  have hz := fun p d h => hz9 p d (hz p d h)
  refine W.widen (k := 5) (n := 77709) (by decide +kernel) (by decide +kernel) ?_
  have hzc : z6.1 = z0.1 + 5 := gw_hzc (c := 4) hc9 hzc (by decide)
  refine gw_putF (k := 0) (ty := 1) (ref := R_Desk) (fty := .object "GearDesk$Trains") C hW o_t0 o5 (by decide) rfl gi_Desk rfl (by decide) rfl rfl gk_371 tf_Desk tf_Desk_ok nm_Desk rfl hin rfl rfl (fun _ => rfl) (fun _ => rfl) gd_Desk_init_12 (fun u9 H locs e10 hW => ?_)
  have h := gf_nm_ok e10 h
  refine lv_aload_n hx hb gd_Desk_init_15 rfl (lv_at hl 0 rfl) ?_
  refine gw_frW hW hh hzc (fun hF => ?_)
  refine gw_new (ci := 2) C hW (fun _ h => Or.inr h) hF (by decide) rfl gi_Works rfl tf_Works tf_Works_ok df_Works gk_842 gk_843 gk_110 (Nat.le_trans (m := 669) (by decide +kernel) hR.2.2.1) (Nat.le_trans (m := 165535) (by decide +kernel) hR.2.2.2) gd_Desk_init_16 (fun z11 u12 H e13 e14 hW hF o15 hz9 => ?_)
  have h := gf_nm_ok e13 h
  have h := gf_nm_ok e14 h
  have o_t0 := hz9 _ _ o_t0
  have o5 := hz9 _ _ o5
  have hz := fun p d h => hz9 p d (hz p d h)
  refine W.widen (k := 6) (n := 77714) (by decide +kernel) (by decide +kernel) ?_
  have hzc : z11.1 = z0.1 + 6 := gw_hzc (b := z6.1) (c := 1) (by rw [e13]; rfl) hzc (by decide)
  refine lv_dup hx hb gd_Desk_init_19 rfl ?_
  obtain ⟨z16, u17, d18, h⟩ := gf_cz_ok h
  refine gw_frW hW hh hzc (fun hF => ?_)
  refine gw_callI (As := []) (rest := [.ref (hs z6.1), .ref (hs t0)]) C hAO hW (fun _ h => Or.inr h) hl.1 gm_Works_init (gc_Works_init l F o15 d18 _ hF) gk_844 gk_845 rfl rfl rfl ⟨(Nat.le_trans (m := 4) (Nat.le_of_ble_eq_true rfl) hR.1), (Nat.le_trans (m := 127) (Nat.le_of_ble_eq_true rfl) hR.2.1)⟩ ⟨(Nat.le_trans (m := 669) (by decide +kernel) hR.2.2.1), (Nat.le_trans (m := 165535) (by decide +kernel) hR.2.2.2)⟩ rfl rfl (Nat.le_of_ble_eq_true rfl) gd_Desk_init_20 (fun H locs hW hc9 hz9 => ?_)
  have o_t0 := hz9 _ _ o_t0
  have o5 := hz9 _ _ o5
  have o15 := hz9 _ _ o15
  have hz := fun p d h => hz9 p d (hz p d h)
  refine W.widen (k := 8) (n := 78254) (by decide +kernel) (by decide +kernel) ?_
  have hzc : z16.1 = z0.1 + 8 := gw_hzc (c := 2) hc9 hzc (by decide)
  refine gw_putF (k := 1) (ty := 2) (ref := R_Desk) (fty := .object "GearDesk$Works") C hW o_t0 o15 (by decide) rfl gi_Desk rfl (by decide) rfl rfl gk_352 tf_Desk tf_Desk_ok nm_Desk rfl hin rfl rfl (fun _ => rfl) (fun _ => rfl) gd_Desk_init_23 (fun u19 H locs e20 hW => ?_)
  have h := gf_nm_ok e20 h
  refine gw_frW hW hh hzc (fun hF => ?_)
  refine gw_new (ci := 7) C hW (fun _ h => Or.inr h) hF (by decide) rfl gi_Calculator rfl tf_Calculator tf_Calculator_ok df_Calculator gk_846 gk_847 gk_66 (Nat.le_trans (m := 669) (by decide +kernel) hR.2.2.1) (Nat.le_trans (m := 165535) (by decide +kernel) hR.2.2.2) gd_Desk_init_26 (fun z21 u22 H e23 e24 hW hF o25 hz9 => ?_)
  have h := gf_nm_ok e23 h
  have h := gf_nm_ok e24 h
  have o_t0 := hz9 _ _ o_t0
  have o5 := hz9 _ _ o5
  have o15 := hz9 _ _ o15
  have hz := fun p d h => hz9 p d (hz p d h)
  refine W.widen (k := 9) (n := 78260) (by decide +kernel) (by decide +kernel) ?_
  have hzc : z21.1 = z0.1 + 9 := gw_hzc (b := z16.1) (c := 1) (by rw [e23]; rfl) hzc (by decide)
  refine lv_dup hx hb gd_Desk_init_29 rfl ?_
  obtain ⟨z26, u27, d28, h⟩ := gf_cz_ok h
  refine gw_frW hW hh hzc (fun hF => ?_)
  refine gw_callI (As := []) (rest := [.ref (hs z16.1)]) C hAO hW (fun _ h => Or.inr h) hl.1 gm_Calculator_init (gc_Calculator_init l F o25 d28 _ hF) gk_848 gk_849 rfl rfl rfl ⟨(Nat.le_trans (m := 4) (Nat.le_of_ble_eq_true rfl) hR.1), (Nat.le_trans (m := 127) (Nat.le_of_ble_eq_true rfl) hR.2.1)⟩ ⟨(Nat.le_trans (m := 669) (by decide +kernel) hR.2.2.1), (Nat.le_trans (m := 165535) (by decide +kernel) hR.2.2.2)⟩ rfl rfl (Nat.le_of_ble_eq_true rfl) gd_Desk_init_30 (fun H locs hW hc9 hz9 => ?_)
  have o_t0 := hz9 _ _ o_t0
  have o5 := hz9 _ _ o5
  have o15 := hz9 _ _ o15
  have o25 := hz9 _ _ o25
  have hz := fun p d h => hz9 p d (hz p d h)
  refine W.widen (k := 21) (n := 78566) (by decide +kernel) (by decide +kernel) ?_
  have hzc : z26.1 = z0.1 + 21 := gw_hzc (c := 12) hc9 hzc (by decide)
  refine lv_astore_n (lv' := [(1, .ref (hs z16.1)), (0, .ref (hs t0))]) hx hb gd_Desk_init_33 rfl hl (by decide) rfl (fun ls hl => ?_)
  refine lv_aload_n hx hb gd_Desk_init_34 rfl (lv_at hl 1 rfl) ?_
  refine gw_frW hW hh hzc (fun hF => ?_)
  refine gw_new (ci := 4) C hW (fun _ h => Or.inr h) hF (by decide) rfl gi_Equations rfl tf_Equations tf_Equations_ok df_Equations gk_850 gk_851 gk_226 (Nat.le_trans (m := 669) (by decide +kernel) hR.2.2.1) (Nat.le_trans (m := 165535) (by decide +kernel) hR.2.2.2) gd_Desk_init_35 (fun z29 u30 H e31 e32 hW hF o33 hz9 => ?_)
  have h := gf_nm_ok e31 h
  have h := gf_nm_ok e32 h
  have o_t0 := hz9 _ _ o_t0
  have o5 := hz9 _ _ o5
  have o15 := hz9 _ _ o15
  have o25 := hz9 _ _ o25
  have hz := fun p d h => hz9 p d (hz p d h)
  refine W.widen (k := 22) (n := 78583) (by decide +kernel) (by decide +kernel) ?_
  have hzc : z29.1 = z0.1 + 22 := gw_hzc (b := z26.1) (c := 1) (by rw [e31]; rfl) hzc (by decide)
  refine lv_dup hx hb gd_Desk_init_38 rfl ?_
  refine lv_aload_n hx hb gd_Desk_init_39 rfl (lv_at hl 0 rfl) ?_
  obtain ⟨z34, u35, d36, h⟩ := gf_cz_ok h
  refine gw_frW hW hh hzc (fun hF => ?_)
  refine gw_callI (As := [.ref (hs z16.1)]) (rest := [.ref (hs z26.1), .ref (hs t0)]) C hAO hW (fun _ h => Or.inr h) hl.1 gm_Equations_init (gc_Equations_init l F o33 o25 d36 _ hF) gk_852 gk_853 rfl rfl rfl ⟨(Nat.le_trans (m := 4) (Nat.le_of_ble_eq_true rfl) hR.1), (Nat.le_trans (m := 127) (Nat.le_of_ble_eq_true rfl) hR.2.1)⟩ ⟨(Nat.le_trans (m := 669) (by decide +kernel) hR.2.2.1), (Nat.le_trans (m := 165535) (by decide +kernel) hR.2.2.2)⟩ rfl rfl (Nat.le_of_ble_eq_true rfl) gd_Desk_init_40 (fun H locs hW hc9 hz9 => ?_)
  have o_t0 := hz9 _ _ o_t0
  have o5 := hz9 _ _ o5
  have o15 := hz9 _ _ o15
  have o25 := hz9 _ _ o25
  have o33 := hz9 _ _ o33
  have hz := fun p d h => hz9 p d (hz p d h)
  refine W.widen (k := 44) (n := 161859) (by decide +kernel) (by decide +kernel) ?_
  have hzc : z34.1 = z0.1 + 44 := gw_hzc (c := 22) hc9 hzc (by decide)
  refine gw_putF (k := 2) (ty := 4) (ref := R_Desk) (fty := .object "GearDesk$Equations") C hW o_t0 o33 (by decide) rfl gi_Desk rfl (by decide) rfl rfl gk_732 tf_Desk tf_Desk_ok nm_Desk rfl hin rfl rfl (fun _ => rfl) (fun _ => rfl) gd_Desk_init_43 (fun u37 H locs e38 hW => ?_)
  have h := gf_nm_ok e38 h
  refine lv_aload_n hx hb gd_Desk_init_46 rfl (lv_at hl 1 rfl) ?_
  refine gw_frW hW hh hzc (fun hF => ?_)
  refine gw_new (ci := 5) C hW (fun _ h => Or.inr h) hF (by decide) rfl gi_Hands rfl tf_Hands tf_Hands_ok df_Hands gk_854 gk_855 gk_343 (Nat.le_trans (m := 669) (by decide +kernel) hR.2.2.1) (Nat.le_trans (m := 165535) (by decide +kernel) hR.2.2.2) gd_Desk_init_47 (fun z39 u40 H e41 e42 hW hF o43 hz9 => ?_)
  have h := gf_nm_ok e41 h
  have h := gf_nm_ok e42 h
  have o_t0 := hz9 _ _ o_t0
  have o5 := hz9 _ _ o5
  have o15 := hz9 _ _ o15
  have o25 := hz9 _ _ o25
  have o33 := hz9 _ _ o33
  have hz := fun p d h => hz9 p d (hz p d h)
  refine W.widen (k := 45) (n := 161864) (by decide +kernel) (by decide +kernel) ?_
  have hzc : z39.1 = z0.1 + 45 := gw_hzc (b := z34.1) (c := 1) (by rw [e41]; rfl) hzc (by decide)
  refine lv_dup hx hb gd_Desk_init_50 rfl ?_
  refine lv_aload_n hx hb gd_Desk_init_51 rfl (lv_at hl 0 rfl) ?_
  obtain ⟨z44, u45, d46, h⟩ := gf_cz_ok h
  refine gw_frW hW hh hzc (fun hF => ?_)
  refine gw_callI (As := [.ref (hs z16.1)]) (rest := [.ref (hs z34.1), .ref (hs t0)]) C hAO hW (fun _ h => Or.inr h) hl.1 gm_Hands_init (gc_Hands_init l F o43 o25 d46 _ hF) gk_856 gk_857 rfl rfl rfl ⟨(Nat.le_trans (m := 4) (Nat.le_of_ble_eq_true rfl) hR.1), (Nat.le_trans (m := 127) (Nat.le_of_ble_eq_true rfl) hR.2.1)⟩ ⟨(Nat.le_trans (m := 669) (by decide +kernel) hR.2.2.1), (Nat.le_trans (m := 165535) (by decide +kernel) hR.2.2.2)⟩ rfl rfl (Nat.le_of_ble_eq_true rfl) gd_Desk_init_52 (fun H locs hW hc9 hz9 => ?_)
  have o_t0 := hz9 _ _ o_t0
  have o5 := hz9 _ _ o5
  have o15 := hz9 _ _ o15
  have o25 := hz9 _ _ o25
  have o33 := hz9 _ _ o33
  have o43 := hz9 _ _ o43
  have hz := fun p d h => hz9 p d (hz p d h)
  refine W.widen (k := 56) (n := 162121) (by decide +kernel) (by decide +kernel) ?_
  have hzc : z44.1 = z0.1 + 56 := gw_hzc (c := 11) hc9 hzc (by decide)
  refine gw_putF (k := 3) (ty := 5) (ref := R_Desk) (fty := .object "GearDesk$Hands") C hW o_t0 o43 (by decide) rfl gi_Desk rfl (by decide) rfl rfl gk_758 tf_Desk tf_Desk_ok nm_Desk rfl hin rfl rfl (fun _ => rfl) (fun _ => rfl) gd_Desk_init_55 (fun u47 H locs e48 hW => ?_)
  have h := gf_nm_ok e48 h
  refine lv_aload_n hx hb gd_Desk_init_58 rfl (lv_at hl 1 rfl) ?_
  refine lv_bipush (v := 12) hx hb gd_Desk_init_59 (by decide) ?_
  obtain ⟨g54, h⟩ := gf_if_ok h
  refine gw_frW hW hh hzc (fun hF => ?_)
  refine gw_newi C hW (fun _ h => Or.inr h) hF gk_792 g54 (Nat.le_trans (m := 669) (by decide +kernel) hR.2.2.1) (Nat.le_trans (m := 165535) (by decide +kernel) hR.2.2.2) gd_Desk_init_61 (fun z49 u50 H e51 e52 hW hF o53 hz9 => ?_)
  have h := gf_nm_ok e51 h
  have h := gf_nm_ok e52 h
  have o_t0 := hz9 _ _ o_t0
  have o5 := hz9 _ _ o5
  have o15 := hz9 _ _ o15
  have o25 := hz9 _ _ o25
  have o33 := hz9 _ _ o33
  have o43 := hz9 _ _ o43
  have hz := fun p d h => hz9 p d (hz p d h)
  refine W.widen (k := 57) (n := 162133) (by decide +kernel) (by decide +kernel) ?_
  have hzc : z49.1 = z0.1 + 57 := gw_hzc (b := z44.1) (c := 1) (by rw [e51]; rfl) hzc (by decide)
  refine gw_putF (k := 4) (ty := 10) (ref := R_Desk) (fty := .array .int) C hW o_t0 o53 (by decide) rfl gi_Desk rfl (by decide) rfl rfl gk_359 tf_Desk tf_Desk_ok nm_Desk rfl hin rfl rfl (fun _ => rfl) (fun _ => rfl) gd_Desk_init_63 (fun u55 H locs e56 hW => ?_)
  have h := gf_nm_ok e56 h
  refine lv_aload_n hx hb gd_Desk_init_66 rfl (lv_at hl 1 rfl) ?_
  refine lv_bipush (v := 12) hx hb gd_Desk_init_67 (by decide) ?_
  obtain ⟨g62, h⟩ := gf_if_ok h
  refine gw_frW hW hh hzc (fun hF => ?_)
  refine gw_newi C hW (fun _ h => Or.inr h) hF gk_792 g62 (Nat.le_trans (m := 669) (by decide +kernel) hR.2.2.1) (Nat.le_trans (m := 165535) (by decide +kernel) hR.2.2.2) gd_Desk_init_69 (fun z57 u58 H e59 e60 hW hF o61 hz9 => ?_)
  have h := gf_nm_ok e59 h
  have h := gf_nm_ok e60 h
  have o_t0 := hz9 _ _ o_t0
  have o5 := hz9 _ _ o5
  have o15 := hz9 _ _ o15
  have o25 := hz9 _ _ o25
  have o33 := hz9 _ _ o33
  have o43 := hz9 _ _ o43
  have o53 := hz9 _ _ o53
  have hz := fun p d h => hz9 p d (hz p d h)
  refine W.widen (k := 58) (n := 162145) (by decide +kernel) (by decide +kernel) ?_
  have hzc : z57.1 = z0.1 + 58 := gw_hzc (b := z49.1) (c := 1) (by rw [e59]; rfl) hzc (by decide)
  refine gw_putF (k := 5) (ty := 10) (ref := R_Desk) (fty := .array .int) C hW o_t0 o61 (by decide) rfl gi_Desk rfl (by decide) rfl rfl gk_755 tf_Desk tf_Desk_ok nm_Desk rfl hin rfl rfl (fun _ => rfl) (fun _ => rfl) gd_Desk_init_71 (fun u63 H locs e64 hW => ?_)
  have h := gf_nm_ok e64 h
  refine lv_aload_n hx hb gd_Desk_init_74 rfl (lv_at hl 1 rfl) ?_
  refine gw_frW hW hh hzc (fun hF => ?_)
  refine gw_new (ci := 6) C hW (fun _ h => Or.inr h) hF (by decide) rfl gi_Fraction rfl tf_Fraction tf_Fraction_ok df_Fraction gk_858 gk_812 gk_59 (Nat.le_trans (m := 669) (by decide +kernel) hR.2.2.1) (Nat.le_trans (m := 165535) (by decide +kernel) hR.2.2.2) gd_Desk_init_75 (fun z65 u66 H e67 e68 hW hF o69 hz9 => ?_)
  have h := gf_nm_ok e67 h
  have h := gf_nm_ok e68 h
  have o_t0 := hz9 _ _ o_t0
  have o5 := hz9 _ _ o5
  have o15 := hz9 _ _ o15
  have o25 := hz9 _ _ o25
  have o33 := hz9 _ _ o33
  have o43 := hz9 _ _ o43
  have o53 := hz9 _ _ o53
  have o61 := hz9 _ _ o61
  have hz := fun p d h => hz9 p d (hz p d h)
  refine W.widen (k := 59) (n := 162147) (by decide +kernel) (by decide +kernel) ?_
  have hzc : z65.1 = z0.1 + 59 := gw_hzc (b := z57.1) (c := 1) (by rw [e67]; rfl) hzc (by decide)
  refine lv_dup hx hb gd_Desk_init_78 rfl ?_
  refine lv_bipush (v := 9) hx hb gd_Desk_init_79 (by decide) ?_
  obtain ⟨z70, u71, d72, h⟩ := gf_cz_ok h
  refine gw_frW hW hh hzc (fun hF => ?_)
  refine gw_callI (As := [.int (9 : Int32)]) (rest := [.ref (hs z57.1), .ref (hs t0)]) C hAO hW (fun _ h => Or.inr h) hl.1 gm_Fraction_init (gc_Fraction_init l F o69 d72 _ hF) gk_859 gk_814 rfl rfl rfl ⟨(Nat.le_trans (m := 4) (Nat.le_of_ble_eq_true rfl) hR.1), (Nat.le_trans (m := 127) (Nat.le_of_ble_eq_true rfl) hR.2.1)⟩ ⟨(Nat.le_trans (m := 669) (by decide +kernel) hR.2.2.1), (Nat.le_trans (m := 165535) (by decide +kernel) hR.2.2.2)⟩ rfl rfl (Nat.le_of_ble_eq_true rfl) gd_Desk_init_81 (fun H locs hW hc9 hz9 => ?_)
  have o_t0 := hz9 _ _ o_t0
  have o5 := hz9 _ _ o5
  have o15 := hz9 _ _ o15
  have o25 := hz9 _ _ o25
  have o33 := hz9 _ _ o33
  have o43 := hz9 _ _ o43
  have o53 := hz9 _ _ o53
  have o61 := hz9 _ _ o61
  have o69 := hz9 _ _ o69
  have hz := fun p d h => hz9 p d (hz p d h)
  refine W.widen (k := 63) (n := 162171) (by decide +kernel) (by decide +kernel) ?_
  have hzc : z70.1 = z0.1 + 63 := gw_hzc (c := 4) hc9 hzc (by decide)
  refine gw_putF (k := 6) (ty := 6) (ref := R_Desk) (fty := .object "GearDesk$Fraction") C hW o_t0 o69 (by decide) rfl gi_Desk rfl (by decide) rfl rfl gk_761 tf_Desk tf_Desk_ok nm_Desk rfl hin rfl rfl (fun _ => rfl) (fun _ => rfl) gd_Desk_init_84 (fun u73 H locs e74 hW => ?_)
  have h := gf_nm_ok e74 h
  refine lv_aload_n hx hb gd_Desk_init_87 rfl (lv_at hl 1 rfl) ?_
  obtain ⟨q75, e76, h⟩ := gf_nn_ok h
  refine gw_getr (k := 6) (ty := 6) (ref := R_Desk) C hW o_t0 (by decide) rfl gi_Desk rfl (by decide) rfl rfl gk_761 gd_Desk_init_88 e76 ?_
  have o_q75 := hW.ref (d := 6) o_t0 e76 rfl
  obtain ⟨q77, e78, h⟩ := gf_nn_ok h
  refine gw_getr (k := 1) (ty := 8) (ref := R_Fraction) C hW o_q75 (by decide) rfl gi_Fraction rfl (by decide) rfl rfl gk_749 gd_Desk_init_91 e78 ?_
  have o_q77 := hW.ref (d := 8) o_q75 e78 rfl
  refine lv_lconst (v := 1) hx hb gd_Desk_init_94 (by decide) ?_
  obtain ⟨u79, d80, h⟩ := gf_bd_ok h
  refine gw_callVv (K := R_Whole) (As := [.long (1 : Int64)]) (rest := []) C hW (fun _ h => Or.inr h) hl.1 gm_Whole_setLong (gc_Whole_setLong l F o_q77 d80 _) gk_860 gk_71 gk_72 o_q77 (by decide) rfl rfl rfl ⟨(Nat.le_trans (m := 4) (Nat.le_of_ble_eq_true rfl) hR.1), (Nat.le_trans (m := 127) (Nat.le_of_ble_eq_true rfl) hR.2.1)⟩ ⟨(Nat.le_trans (m := 669) (by decide +kernel) hR.2.2.1), (Nat.le_trans (m := 165535) (by decide +kernel) hR.2.2.2)⟩ rfl rfl (Nat.le_of_ble_eq_true rfl) gd_Desk_init_95 (fun H locs hW => ?_)
  refine lv_aload_n hx hb gd_Desk_init_98 rfl (lv_at hl 1 rfl) ?_
  refine gw_frW hW hh hzc (fun hF => ?_)
  refine gw_new (ci := 3) C hW (fun _ h => Or.inr h) hF (by decide) rfl gi_Speeds rfl tf_Speeds tf_Speeds_ok df_Speeds gk_861 gk_862 gk_128 (Nat.le_trans (m := 669) (by decide +kernel) hR.2.2.1) (Nat.le_trans (m := 165535) (by decide +kernel) hR.2.2.2) gd_Desk_init_99 (fun z81 u82 H e83 e84 hW hF o85 hz9 => ?_)
  have h := gf_nm_ok e83 h
  have h := gf_nm_ok e84 h
  have o_t0 := hz9 _ _ o_t0
  have o5 := hz9 _ _ o5
  have o15 := hz9 _ _ o15
  have o25 := hz9 _ _ o25
  have o33 := hz9 _ _ o33
  have o43 := hz9 _ _ o43
  have o53 := hz9 _ _ o53
  have o61 := hz9 _ _ o61
  have o69 := hz9 _ _ o69
  have o_q75 := hz9 _ _ o_q75
  have o_q77 := hz9 _ _ o_q77
  have hz := fun p d h => hz9 p d (hz p d h)
  refine W.widen (k := 64) (n := 162173) (by decide +kernel) (by decide +kernel) ?_
  have hzc : z81.1 = z0.1 + 64 := gw_hzc (b := z70.1) (c := 1) (by rw [e83]; rfl) hzc (by decide)
  refine lv_dup hx hb gd_Desk_init_102 rfl ?_
  obtain ⟨z86, u87, d88, h⟩ := gf_cz_ok h
  refine gw_frW hW hh hzc (fun hF => ?_)
  refine gw_callI (As := []) (rest := [.ref (hs z70.1), .ref (hs t0)]) C hAO hW (fun _ h => Or.inr h) hl.1 gm_Speeds_init (gc_Speeds_init l F o85 d88 _ hF) gk_863 gk_864 rfl rfl rfl ⟨(Nat.le_trans (m := 4) (Nat.le_of_ble_eq_true rfl) hR.1), (Nat.le_trans (m := 127) (Nat.le_of_ble_eq_true rfl) hR.2.1)⟩ ⟨(Nat.le_trans (m := 669) (by decide +kernel) hR.2.2.1), (Nat.le_trans (m := 165535) (by decide +kernel) hR.2.2.2)⟩ rfl rfl (Nat.le_of_ble_eq_true rfl) gd_Desk_init_103 (fun H locs hW hc9 hz9 => ?_)
  have o_t0 := hz9 _ _ o_t0
  have o5 := hz9 _ _ o5
  have o15 := hz9 _ _ o15
  have o25 := hz9 _ _ o25
  have o33 := hz9 _ _ o33
  have o43 := hz9 _ _ o43
  have o53 := hz9 _ _ o53
  have o61 := hz9 _ _ o61
  have o69 := hz9 _ _ o69
  have o_q75 := hz9 _ _ o_q75
  have o_q77 := hz9 _ _ o_q77
  have o85 := hz9 _ _ o85
  have hz := fun p d h => hz9 p d (hz p d h)
  refine W.widen (k := 366) (n := 163853) (by decide +kernel) (by decide +kernel) ?_
  have hzc : z86.1 = z0.1 + 366 := gw_hzc (c := 302) hc9 hzc (by decide)
  refine gw_putr (k := 7) (ty := 3) (ref := R_Desk) (fty := .object R_Speeds) C hW o_t0 o85 (by decide) rfl gi_Desk rfl (by decide) rfl rfl gk_357 tf_Desk tf_Desk_ok nm_Desk rfl rfl (fun _ => rfl) (fun _ => rfl) gd_Desk_init_106 (fun u89 H locs e90 hW => ?_)
  have h := gf_nm_ok e90 h
  refine lv_aload_n hx hb gd_Desk_init_109 rfl (lv_at hl 1 rfl) ?_
  refine gw_frW hW hh hzc (fun hF => ?_)
  refine gw_new (ci := 3) C hW (fun _ h => Or.inr h) hF (by decide) rfl gi_Speeds rfl tf_Speeds tf_Speeds_ok df_Speeds gk_861 gk_862 gk_128 (Nat.le_trans (m := 669) (by decide +kernel) hR.2.2.1) (Nat.le_trans (m := 165535) (by decide +kernel) hR.2.2.2) gd_Desk_init_110 (fun z91 u92 H e93 e94 hW hF o95 hz9 => ?_)
  have h := gf_nm_ok e93 h
  have h := gf_nm_ok e94 h
  have o_t0 := hz9 _ _ o_t0
  have o5 := hz9 _ _ o5
  have o15 := hz9 _ _ o15
  have o25 := hz9 _ _ o25
  have o33 := hz9 _ _ o33
  have o43 := hz9 _ _ o43
  have o53 := hz9 _ _ o53
  have o61 := hz9 _ _ o61
  have o69 := hz9 _ _ o69
  have o_q75 := hz9 _ _ o_q75
  have o_q77 := hz9 _ _ o_q77
  have o85 := hz9 _ _ o85
  have hz := fun p d h => hz9 p d (hz p d h)
  refine W.widen (k := 367) (n := 163855) (by decide +kernel) (by decide +kernel) ?_
  have hzc : z91.1 = z0.1 + 367 := gw_hzc (b := z86.1) (c := 1) (by rw [e93]; rfl) hzc (by decide)
  refine lv_dup hx hb gd_Desk_init_113 rfl ?_
  obtain ⟨z96, u97, d98, h⟩ := gf_cz_ok h
  refine gw_frW hW hh hzc (fun hF => ?_)
  refine gw_callI (As := []) (rest := [.ref (hs z86.1), .ref (hs t0)]) C hAO hW (fun _ h => Or.inr h) hl.1 gm_Speeds_init (gc_Speeds_init l F o95 d98 _ hF) gk_863 gk_864 rfl rfl rfl ⟨(Nat.le_trans (m := 4) (Nat.le_of_ble_eq_true rfl) hR.1), (Nat.le_trans (m := 127) (Nat.le_of_ble_eq_true rfl) hR.2.1)⟩ ⟨(Nat.le_trans (m := 669) (by decide +kernel) hR.2.2.1), (Nat.le_trans (m := 165535) (by decide +kernel) hR.2.2.2)⟩ rfl rfl (Nat.le_of_ble_eq_true rfl) gd_Desk_init_114 (fun H locs hW hc9 hz9 => ?_)
  have o_t0 := hz9 _ _ o_t0
  have o5 := hz9 _ _ o5
  have o15 := hz9 _ _ o15
  have o25 := hz9 _ _ o25
  have o33 := hz9 _ _ o33
  have o43 := hz9 _ _ o43
  have o53 := hz9 _ _ o53
  have o61 := hz9 _ _ o61
  have o69 := hz9 _ _ o69
  have o_q75 := hz9 _ _ o_q75
  have o_q77 := hz9 _ _ o_q77
  have o85 := hz9 _ _ o85
  have o95 := hz9 _ _ o95
  have hz := fun p d h => hz9 p d (hz p d h)
  refine W.widen (k := 669) (n := 165535) (by decide +kernel) (by decide +kernel) ?_
  have hzc : z96.1 = z0.1 + 669 := gw_hzc (c := 302) hc9 hzc (by decide)
  refine gw_putr (k := 8) (ty := 3) (ref := R_Desk) (fty := .object R_Speeds) C hW o_t0 o95 (by decide) rfl gi_Desk rfl (by decide) rfl rfl gk_736 tf_Desk tf_Desk_ok nm_Desk rfl rfl (fun _ => rfl) (fun _ => rfl) gd_Desk_init_117 (fun u99 H locs e100 hW => ?_)
  have h := gf_nm_ok e100 h
  refine lv_aload_n hx hb gd_Desk_init_120 rfl (lv_at hl 1 rfl) ?_
  obtain ⟨q101, e102, h⟩ := gf_nn_ok h
  refine gw_getr (k := 4) (ty := 10) (ref := R_Desk) C hW o_t0 (by decide) rfl gi_Desk rfl (by decide) rfl rfl gk_359 gd_Desk_init_121 e102 ?_
  have o_q101 := hW.ref (d := 10) o_t0 e102 rfl
  refine lv_iconst (v := (-1)) hx hb gd_Desk_init_124 (by decide) ?_
  obtain ⟨u103, d104, h⟩ := gf_bd_ok h
  refine gw_callSv (As := [.ref (hs q101), .int (-1 : Int32)]) (rest := []) C hW (fun _ h => Or.inr h) hl.1 gm_Arrays_fill1 (gc_Arrays_fill1 l F o_q101 d104 _) gk_360 gk_151 rfl rfl ⟨(Nat.le_trans (m := 4) (Nat.le_of_ble_eq_true rfl) hR.1), (Nat.le_trans (m := 127) (Nat.le_of_ble_eq_true rfl) hR.2.1)⟩ ⟨(Nat.le_trans (m := 669) (by decide +kernel) hR.2.2.1), (Nat.le_trans (m := 165535) (by decide +kernel) hR.2.2.2)⟩ rfl rfl (Nat.le_of_ble_eq_true rfl) gd_Desk_init_125 (fun H locs hW => ?_)
  obtain rfl := Option.some.inj h
  exact gw_vretC C hW hzc hz hr hk gd_Desk_init_128

set_option maxRecDepth 20000 in
theorem gc_Desk_init (l : Launch) {D : va_G} {cA : Nat → ClassId} {hs : Nat → Nat} {z : gw_Sh} (F : Nat) {u : gw_St} {r0 : gw_Sh × gw_St} {t0 : Nat} (o_t0 : gw_ok z t0 0) (h : gf_Desk_init F z u t0 = some r0) (sz : Nat) (hh : ∀ j, hs (z.1 + j) = sz + j) : gw_Mc l gy_Desk_init gb_Desk_init 2 (gw_rc 4 127 669 165535) [.ref (hs t0)] D cA hs z u sz 669 165535 r0 := by
  refine gw_enterC (by decide) (Nat.le_of_ble_eq_true rfl) hh ?_
  intro p e s m below meth c ls hsz C hW hh hAO hr hk hin hl
  subst hsz
  exact gx_Desk_init_b0 F C hr hk hin hAO (gw_rc_ok 4 127 669 165535) hh (fun _ _ h => h) rfl u t0 o_t0 hW (lv_sub hl [0] rfl) h
