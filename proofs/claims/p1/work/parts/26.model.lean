-- GearDeskModel.word([III)I
def gy_Model_word : MethodName := ⟨R_Model, "word", "([III)I"⟩
abbrev gb_Model_word : ByteArray := prog_11_method_67_code
theorem gk_626 : Cond.code gy_Model_word gb_Model_word 3 (some .int) ∈ gt_T := gt_m7 (List.mem_of_getElem? (i := 201) rfl) rfl
def gr_Model_word : Room := gw_rm 1 64
theorem gm_Model_word : gw_Mth gy_Model_word gb_Model_word 3 (some .int) 3 := ⟨gk_626, gk_377, ⟨by decide +kernel, by decide +kernel⟩, by decide +kernel⟩
theorem gd_Model_word_0 : decode gb_Model_word 0 = .ok (.aload_n 0, 1) := by decide +kernel
theorem gd_Model_word_1 : decode gb_Model_word 1 = .ok (.bipush 16, 2) := by decide +kernel
theorem gd_Model_word_3 : decode gb_Model_word 3 = .ok (.iload_n 1, 1) := by decide +kernel
theorem gd_Model_word_4 : decode gb_Model_word 4 = .ok (.imul, 1) := by decide +kernel
theorem gd_Model_word_5 : decode gb_Model_word 5 = .ok (.iconst 2, 1) := by decide +kernel
theorem gd_Model_word_6 : decode gb_Model_word 6 = .ok (.iload_n 2, 1) := by decide +kernel
theorem gd_Model_word_7 : decode gb_Model_word 7 = .ok (.imul, 1) := by decide +kernel
theorem gd_Model_word_8 : decode gb_Model_word 8 = .ok (.iadd, 1) := by decide +kernel
theorem gd_Model_word_9 : decode gb_Model_word 9 = .ok (.iaload, 1) := by decide +kernel
theorem gd_Model_word_10 : decode gb_Model_word 10 = .ok (.aload_n 0, 1) := by decide +kernel
theorem gd_Model_word_11 : decode gb_Model_word 11 = .ok (.bipush 16, 2) := by decide +kernel
theorem gd_Model_word_13 : decode gb_Model_word 13 = .ok (.iload_n 1, 1) := by decide +kernel
theorem gd_Model_word_14 : decode gb_Model_word 14 = .ok (.imul, 1) := by decide +kernel
theorem gd_Model_word_15 : decode gb_Model_word 15 = .ok (.iconst 2, 1) := by decide +kernel
theorem gd_Model_word_16 : decode gb_Model_word 16 = .ok (.iload_n 2, 1) := by decide +kernel
theorem gd_Model_word_17 : decode gb_Model_word 17 = .ok (.imul, 1) := by decide +kernel
theorem gd_Model_word_18 : decode gb_Model_word 18 = .ok (.iadd, 1) := by decide +kernel
theorem gd_Model_word_19 : decode gb_Model_word 19 = .ok (.iconst 1, 1) := by decide +kernel
theorem gd_Model_word_20 : decode gb_Model_word 20 = .ok (.iadd, 1) := by decide +kernel
theorem gd_Model_word_21 : decode gb_Model_word 21 = .ok (.iaload, 1) := by decide +kernel
theorem gd_Model_word_22 : decode gb_Model_word 22 = .ok (.bipush 16, 2) := by decide +kernel
theorem gd_Model_word_24 : decode gb_Model_word 24 = .ok (.ishl, 1) := by decide +kernel
theorem gd_Model_word_25 : decode gb_Model_word 25 = .ok (.ior, 1) := by decide +kernel
theorem gd_Model_word_26 : decode gb_Model_word 26 = .ok (.ireturn, 1) := by decide +kernel
def gf_Model_word_b0 (F : Nat) (z : gw_Sh)  (u : gw_St) (t0 : Nat) (x1 : Int32) (x2 : Int32) : Option (Int32 × gw_St) :=
  if ((((16 : Int32) * x1) + ((2 : Int32) * x2)) < 0 ∨ z.2.2 t0 ≤ ((((16 : Int32) * x1) + ((2 : Int32) * x2))).toNatClampNeg) then none else if (((((16 : Int32) * x1) + ((2 : Int32) * x2)) + (1 : Int32)) < 0 ∨ z.2.2 t0 ≤ (((((16 : Int32) * x1) + ((2 : Int32) * x2)) + (1 : Int32))).toNatClampNeg) then none else some (((u.1 t0 ((((16 : Int32) * x1) + ((2 : Int32) * x2))).toNatClampNeg) ||| ((u.1 t0 (((((16 : Int32) * x1) + ((2 : Int32) * x2)) + (1 : Int32))).toNatClampNeg) <<< ((16 : Int32) &&& 31))), u)
def gf_Model_word (F : Nat) (z : gw_Sh) (u : gw_St) (t0 : Nat) (x1 : Int32) (x2 : Int32) : Option (Int32 × gw_St) := gf_Model_word_b0 F z  u t0 x1 x2
set_option maxHeartbeats 4000000 in
set_option maxRecDepth 20000 in
theorem gx_Model_word_b0 {p : Program} {l : Launch} {e : Env} {s : State} {m : MethodId} {args : Array Value} {below : List Frame} {meth : Method} {c : Code} {D : va_G} {cA : Nat → ClassId} {hs : Nat → Nat} {z : gw_Sh} (F : Nat) {r0 : (Int32 × gw_St)} (C : gw_Cx p s m args c gb_Model_word 3 R_Model D cA) (hr : meth.sig.returnType = (some .int)) (hk : meth.locks = false) (u : gw_St) (t0 : Nat) (x1 : Int32) (x2 : Int32) (o_t0 : gw_ok z t0 10) {H : Heap} {locs : List Loc} {ls : Array Slot} (hW : gw_Wx D cA hs z s u H locs) (hl : lv_has ls 3 [(0, .ref (hs t0)), (1, .int x1), (2, .int x2)]) (h : gf_Model_word_b0 F z   u t0 x1 x2 = some r0) : gw_Gi p l e gr_Model_word s m args below meth c D cA hs z r0 H locs ls 0 [] := by
  obtain ⟨hx, hb, hml, hown, hts, hK⟩ := id C
  unfold gf_Model_word_b0 at h
  refine lv_aload_n hx hb gd_Model_word_0 rfl (lv_at hl 0 rfl) ?_
  refine lv_bipush (v := 16) hx hb gd_Model_word_1 (by decide) ?_
  refine lv_iload_n hx hb gd_Model_word_3 rfl (lv_at hl 1 rfl) ?_
  refine lv_imul hx hb gd_Model_word_4 ?_
  refine lv_iconst (v := 2) hx hb gd_Model_word_5 (by decide) ?_
  refine lv_iload_n hx hb gd_Model_word_6 rfl (lv_at hl 2 rfl) ?_
  refine lv_imul hx hb gd_Model_word_7 ?_
  refine lv_iadd hx hb gd_Model_word_8 ?_
  obtain ⟨g1, h⟩ := gf_if_ok h
  refine gw_iald C hW o_t0 g1 gd_Model_word_9 ?_
  refine lv_aload_n hx hb gd_Model_word_10 rfl (lv_at hl 0 rfl) ?_
  refine lv_bipush (v := 16) hx hb gd_Model_word_11 (by decide) ?_
  refine lv_iload_n hx hb gd_Model_word_13 rfl (lv_at hl 1 rfl) ?_
  refine lv_imul hx hb gd_Model_word_14 ?_
  refine lv_iconst (v := 2) hx hb gd_Model_word_15 (by decide) ?_
  refine lv_iload_n hx hb gd_Model_word_16 rfl (lv_at hl 2 rfl) ?_
  refine lv_imul hx hb gd_Model_word_17 ?_
  refine lv_iadd hx hb gd_Model_word_18 ?_
  refine lv_iconst (v := 1) hx hb gd_Model_word_19 (by decide) ?_
  refine lv_iadd hx hb gd_Model_word_20 ?_
  obtain ⟨g2, h⟩ := gf_if_ok h
  refine gw_iald C hW o_t0 g2 gd_Model_word_21 ?_
  refine lv_bipush (v := 16) hx hb gd_Model_word_22 (by decide) ?_
  refine lv_ishl hx hb gd_Model_word_24 ?_
  refine lv_ior hx hb gd_Model_word_25 ?_
  obtain rfl := Option.some.inj h
  exact gw_iret C hW hr hk gd_Model_word_26

set_option maxRecDepth 20000 in
theorem gc_Model_word (l : Launch) {D : va_G} {cA : Nat → ClassId} {hs : Nat → Nat} {z : gw_Sh} (F : Nat) {u : gw_St} {r0 : (Int32 × gw_St)} {t0 : Nat} {x1 : Int32} {x2 : Int32} (o_t0 : gw_ok z t0 10) (h : gf_Model_word F z u t0 x1 x2 = some r0) (sz : Nat) : gw_Mi l gy_Model_word gb_Model_word 3 (some .int) gr_Model_word [.ref (hs t0), .int x1, .int x2] D cA hs z u sz r0 := by
  refine gw_enter (by decide) (Nat.le_of_ble_eq_true rfl) ?_
  intro p e s m below meth c ls hsz C hW hr hk _ hl
  subst hsz
  exact gx_Model_word_b0 F C hr hk u t0 x1 x2 o_t0 hW (lv_sub hl [0, 1, 2] rfl) h
-- GearDeskModel.speed(III)I
theorem gk_627 : Cond.methodLink R_Model 337 gy_Model_word ∈ gt_T := gt_m7 (List.mem_of_getElem? (i := 199) rfl) rfl
theorem gk_628 : Cond.static gy_Model_word ∈ gt_T := gt_m7 (List.mem_of_getElem? (i := 200) rfl) rfl
def gy_Model_speed : MethodName := ⟨R_Model, "speed", "(III)I"⟩
abbrev gb_Model_speed : ByteArray := prog_11_method_68_code
theorem gk_629 : Cond.code gy_Model_speed gb_Model_speed 4 (some .int) ∈ gt_T := gt_m7 (List.mem_of_getElem? (i := 198) rfl) rfl
def gr_Model_speed : Room := gw_rm 3 107
theorem gm_Model_speed : gw_Mth gy_Model_speed gb_Model_speed 4 (some .int) 3 := ⟨gk_629, gk_377, ⟨by decide +kernel, by decide +kernel⟩, by decide +kernel⟩
theorem gd_Model_speed_0 : decode gb_Model_speed 0 = .ok (.aload_n 0, 1) := by decide +kernel
theorem gd_Model_speed_1 : decode gb_Model_speed 1 = .ok (.iconst 0, 1) := by decide +kernel
theorem gd_Model_speed_2 : decode gb_Model_speed 2 = .ok (.putfield 112, 3) := by decide +kernel
theorem gd_Model_speed_5 : decode gb_Model_speed 5 = .ok (.aload_n 0, 1) := by decide +kernel
theorem gd_Model_speed_6 : decode gb_Model_speed 6 = .ok (.iload_n 1, 1) := by decide +kernel
theorem gd_Model_speed_7 : decode gb_Model_speed 7 = .ok (.invokevirtual 220, 3) := by decide +kernel
theorem gd_Model_speed_10 : decode gb_Model_speed 10 = .ok (.ifCond .eq 30, 3) := by decide +kernel
theorem gd_Model_speed_13 : decode gb_Model_speed 13 = .ok (.iload_n 2, 1) := by decide +kernel
theorem gd_Model_speed_14 : decode gb_Model_speed 14 = .ok (.iconst 0, 1) := by decide +kernel
theorem gd_Model_speed_15 : decode gb_Model_speed 15 = .ok (.iconst 2, 1) := by decide +kernel
theorem gd_Model_speed_16 : decode gb_Model_speed 16 = .ok (.invokestatic 119, 3) := by decide +kernel
theorem gd_Model_speed_19 : decode gb_Model_speed 19 = .ok (.ifCond .eq 21, 3) := by decide +kernel
theorem gd_Model_speed_22 : decode gb_Model_speed 22 = .ok (.iload_n 3, 1) := by decide +kernel
theorem gd_Model_speed_23 : decode gb_Model_speed 23 = .ok (.iconst 0, 1) := by decide +kernel
theorem gd_Model_speed_24 : decode gb_Model_speed 24 = .ok (.iload_n 2, 1) := by decide +kernel
theorem gd_Model_speed_25 : decode gb_Model_speed 25 = .ok (.ifCond .ne 7, 3) := by decide +kernel
theorem gd_Model_speed_28 : decode gb_Model_speed 28 = .ok (.iconst 0, 1) := by decide +kernel
theorem gd_Model_speed_29 : decode gb_Model_speed 29 = .ok (.goto 5, 3) := by decide +kernel
theorem gd_Model_speed_32 : decode gb_Model_speed 32 = .ok (.bipush 7, 2) := by decide +kernel
theorem gd_Model_speed_34 : decode gb_Model_speed 34 = .ok (.invokestatic 119, 3) := by decide +kernel
theorem gd_Model_speed_37 : decode gb_Model_speed 37 = .ok (.ifCond .ne 9, 3) := by decide +kernel
theorem gd_Model_speed_40 : decode gb_Model_speed 40 = .ok (.aload_n 0, 1) := by decide +kernel
theorem gd_Model_speed_41 : decode gb_Model_speed 41 = .ok (.iconst 1, 1) := by decide +kernel
theorem gd_Model_speed_42 : decode gb_Model_speed 42 = .ok (.invokevirtual 123, 3) := by decide +kernel
theorem gd_Model_speed_45 : decode gb_Model_speed 45 = .ok (.ireturn, 1) := by decide +kernel
theorem gd_Model_speed_46 : decode gb_Model_speed 46 = .ok (.aload_n 0, 1) := by decide +kernel
theorem gd_Model_speed_47 : decode gb_Model_speed 47 = .ok (.getfield 45, 3) := by decide +kernel
theorem gd_Model_speed_50 : decode gb_Model_speed 50 = .ok (.iload_n 1, 1) := by decide +kernel
theorem gd_Model_speed_51 : decode gb_Model_speed 51 = .ok (.baload, 1) := by decide +kernel
theorem gd_Model_speed_52 : decode gb_Model_speed 52 = .ok (.ifCond .ne 9, 3) := by decide +kernel
theorem gd_Model_speed_55 : decode gb_Model_speed 55 = .ok (.aload_n 0, 1) := by decide +kernel
theorem gd_Model_speed_56 : decode gb_Model_speed 56 = .ok (.iconst 2, 1) := by decide +kernel
theorem gd_Model_speed_57 : decode gb_Model_speed 57 = .ok (.invokevirtual 123, 3) := by decide +kernel
theorem gd_Model_speed_60 : decode gb_Model_speed 60 = .ok (.ireturn, 1) := by decide +kernel
theorem gd_Model_speed_61 : decode gb_Model_speed 61 = .ok (.iload_n 2, 1) := by decide +kernel
theorem gd_Model_speed_62 : decode gb_Model_speed 62 = .ok (.ifCond .ne 12, 3) := by decide +kernel
theorem gd_Model_speed_65 : decode gb_Model_speed 65 = .ok (.aload_n 0, 1) := by decide +kernel
theorem gd_Model_speed_66 : decode gb_Model_speed 66 = .ok (.getfield 49, 3) := by decide +kernel
theorem gd_Model_speed_69 : decode gb_Model_speed 69 = .ok (.iload_n 1, 1) := by decide +kernel
theorem gd_Model_speed_70 : decode gb_Model_speed 70 = .ok (.iaload, 1) := by decide +kernel
theorem gd_Model_speed_71 : decode gb_Model_speed 71 = .ok (.goto 29, 3) := by decide +kernel
theorem gd_Model_speed_74 : decode gb_Model_speed 74 = .ok (.iload_n 2, 1) := by decide +kernel
theorem gd_Model_speed_75 : decode gb_Model_speed 75 = .ok (.iconst 1, 1) := by decide +kernel
theorem gd_Model_speed_76 : decode gb_Model_speed 76 = .ok (.if_icmp .ne 15, 3) := by decide +kernel
theorem gd_Model_speed_79 : decode gb_Model_speed 79 = .ok (.aload_n 0, 1) := by decide +kernel
theorem gd_Model_speed_80 : decode gb_Model_speed 80 = .ok (.getfield 52, 3) := by decide +kernel
theorem gd_Model_speed_83 : decode gb_Model_speed 83 = .ok (.iload_n 1, 1) := by decide +kernel
theorem gd_Model_speed_84 : decode gb_Model_speed 84 = .ok (.iload_n 3, 1) := by decide +kernel
theorem gd_Model_speed_85 : decode gb_Model_speed 85 = .ok (.invokestatic 337, 3) := by decide +kernel
theorem gd_Model_speed_88 : decode gb_Model_speed 88 = .ok (.goto 12, 3) := by decide +kernel
theorem gd_Model_speed_91 : decode gb_Model_speed 91 = .ok (.aload_n 0, 1) := by decide +kernel
theorem gd_Model_speed_92 : decode gb_Model_speed 92 = .ok (.getfield 55, 3) := by decide +kernel
theorem gd_Model_speed_95 : decode gb_Model_speed 95 = .ok (.iload_n 1, 1) := by decide +kernel
theorem gd_Model_speed_96 : decode gb_Model_speed 96 = .ok (.iload_n 3, 1) := by decide +kernel
theorem gd_Model_speed_97 : decode gb_Model_speed 97 = .ok (.invokestatic 337, 3) := by decide +kernel
theorem gd_Model_speed_100 : decode gb_Model_speed 100 = .ok (.ireturn, 1) := by decide +kernel
def gf_Model_speed_b40 (F : Nat) (z : gw_Sh)  (u : gw_St) (t0 : Nat) : Option (Int32 × gw_St) :=
  gf_cl (gf_Model_fail F z u t0 (1 : Int32)) fun a3 u1 => some (a3, u1)
def gf_Model_speed_b100 (F : Nat) (z : gw_Sh)  (u : gw_St) (sx0 : Int32) : Option (Int32 × gw_St) :=
  some (sx0, u)
def gf_Model_speed_b34 (F : Nat) (z : gw_Sh)  (u : gw_St) (t0 : Nat) (x1 : Int32) (x2 : Int32) (x3 : Int32) (sx0 : Int32) (sx1 : Int32) (sx2 : Int32) : Option (Int32 × gw_St) :=
  gf_cl (gf_Model_within F z u sx0 sx1 sx2) fun a6 u4 => if a6 = 0 then (gf_Model_speed_b40 F z  u4 t0) else (gf_nn (u4.2.2 t0 28) fun q8 => if (x1 < 0 ∨ z.2.2 q8 ≤ (x1).toNatClampNeg) then none else if (u4.1 q8 (x1).toNatClampNeg) = 0 then (gf_cl (gf_Model_fail F z u4 t0 (2 : Int32)) fun a29 u27 => some (a29, u27)) else (if x2 = 0 then (gf_nn (u4.2.2 t0 29) fun q24 => if (x1 < 0 ∨ z.2.2 q24 ≤ (x1).toNatClampNeg) then none else gf_Model_speed_b100 F z  u4 (u4.1 q24 (x1).toNatClampNeg)) else (if x2 = (1 : Int32) then (gf_nn (u4.2.2 t0 30) fun q19 => gf_cl (gf_Model_word F z u4 q19 x1 x3) fun a23 u21 => gf_Model_speed_b100 F z  u21 a23) else (gf_nn (u4.2.2 t0 31) fun q14 => gf_cl (gf_Model_word F z u4 q14 x1 x3) fun a18 u16 => gf_Model_speed_b100 F z  u16 a18))))
def gf_Model_speed_b0 (F : Nat) (z : gw_Sh)  (u : gw_St) (t0 : Nat) (x1 : Int32) (x2 : Int32) (x3 : Int32) : Option (Int32 × gw_St) :=
  gf_nm (gw_wi u t0 0 (0 : Int32)) fun u30 => gf_cl (gf_Model_isGear F z u30 t0 x1) fun a34 u32 => if a34 = 0 then (gf_Model_speed_b40 F z  u32 t0) else (gf_cl (gf_Model_within F z u32 x2 (0 : Int32) (2 : Int32)) fun a38 u36 => if a38 = 0 then (gf_Model_speed_b40 F z  u36 t0) else (if x2 = 0 then (gf_Model_speed_b34 F z  u36 t0 x1 x2 x3 x3 0 0) else (gf_Model_speed_b34 F z  u36 t0 x1 x2 x3 x3 0 7)))
def gf_Model_speed (F : Nat) (z : gw_Sh) (u : gw_St) (t0 : Nat) (x1 : Int32) (x2 : Int32) (x3 : Int32) : Option (Int32 × gw_St) := gf_Model_speed_b0 F z  u t0 x1 x2 x3
set_option maxHeartbeats 4000000 in
set_option maxRecDepth 20000 in
theorem gx_Model_speed_b40 {p : Program} {l : Launch} {e : Env} {s : State} {m : MethodId} {args : Array Value} {below : List Frame} {meth : Method} {c : Code} {D : va_G} {cA : Nat → ClassId} {hs : Nat → Nat} {z : gw_Sh} (F : Nat) {r0 : (Int32 × gw_St)} (C : gw_Cx p s m args c gb_Model_speed 4 R_Model D cA) (hr : meth.sig.returnType = (some .int)) (hk : meth.locks = false) (u : gw_St) (t0 : Nat) (o_t0 : gw_ok z t0 9) {H : Heap} {locs : List Loc} {ls : Array Slot} (hW : gw_Wx D cA hs z s u H locs) (hl : lv_has ls 4 [(0, .ref (hs t0))]) (h : gf_Model_speed_b40 F z   u t0 = some r0) : gw_Gi p l e gr_Model_speed s m args below meth c D cA hs z r0 H locs ls 40 [] := by
  obtain ⟨hx, hb, hml, hown, hts, hK⟩ := id C
  unfold gf_Model_speed_b40 at h
  refine lv_aload_n hx hb gd_Model_speed_40 rfl (lv_at hl 0 rfl) ?_
  refine lv_iconst (v := 1) hx hb gd_Model_speed_41 (by decide) ?_
  obtain ⟨a3, u1, d2, h⟩ := gf_cl_ok h
  refine gw_callVi (K := R_Model) (As := [.int (1 : Int32)]) (rest := []) C hW (fun _ h => Or.inr h) hl.1 gm_Model_fail (gc_Model_fail l F o_t0 d2 _) gk_385 gk_386 gk_387 o_t0 (by decide) rfl rfl rfl ⟨Nat.le_of_ble_eq_true rfl, Nat.le_of_ble_eq_true rfl⟩ ⟨Nat.zero_le _, Nat.zero_le _⟩ rfl rfl (Nat.le_of_ble_eq_true rfl) gd_Model_speed_42 (fun H locs hW => ?_)
  obtain rfl := Option.some.inj h
  exact gw_iret C hW hr hk gd_Model_speed_45

set_option maxHeartbeats 4000000 in
set_option maxRecDepth 20000 in
theorem gx_Model_speed_b100 {p : Program} {l : Launch} {e : Env} {s : State} {m : MethodId} {args : Array Value} {below : List Frame} {meth : Method} {c : Code} {D : va_G} {cA : Nat → ClassId} {hs : Nat → Nat} {z : gw_Sh} (F : Nat) {r0 : (Int32 × gw_St)} (C : gw_Cx p s m args c gb_Model_speed 4 R_Model D cA) (hr : meth.sig.returnType = (some .int)) (hk : meth.locks = false) (u : gw_St) (sx0 : Int32)  {H : Heap} {locs : List Loc} {ls : Array Slot} (hW : gw_Wx D cA hs z s u H locs) (hl : lv_has ls 4 []) (h : gf_Model_speed_b100 F z   u sx0 = some r0) : gw_Gi p l e gr_Model_speed s m args below meth c D cA hs z r0 H locs ls 100 [.int sx0] := by
  obtain ⟨hx, hb, hml, hown, hts, hK⟩ := id C
  unfold gf_Model_speed_b100 at h
  obtain rfl := Option.some.inj h
  exact gw_iret C hW hr hk gd_Model_speed_100

set_option maxHeartbeats 4000000 in
set_option maxRecDepth 20000 in
theorem gx_Model_speed_b34 {p : Program} {l : Launch} {e : Env} {s : State} {m : MethodId} {args : Array Value} {below : List Frame} {meth : Method} {c : Code} {D : va_G} {cA : Nat → ClassId} {hs : Nat → Nat} {z : gw_Sh} (F : Nat) {r0 : (Int32 × gw_St)} (C : gw_Cx p s m args c gb_Model_speed 4 R_Model D cA) (hr : meth.sig.returnType = (some .int)) (hk : meth.locks = false) (u : gw_St) (t0 : Nat) (x1 : Int32) (x2 : Int32) (x3 : Int32) (sx0 : Int32) (sx1 : Int32) (sx2 : Int32) (o_t0 : gw_ok z t0 9) {H : Heap} {locs : List Loc} {ls : Array Slot} (hW : gw_Wx D cA hs z s u H locs) (hl : lv_has ls 4 [(0, .ref (hs t0)), (1, .int x1), (2, .int x2), (3, .int x3)]) (h : gf_Model_speed_b34 F z   u t0 x1 x2 x3 sx0 sx1 sx2 = some r0) : gw_Gi p l e gr_Model_speed s m args below meth c D cA hs z r0 H locs ls 34 [.int sx2, .int sx1, .int sx0] := by
  obtain ⟨hx, hb, hml, hown, hts, hK⟩ := id C
  unfold gf_Model_speed_b34 at h
  obtain ⟨a6, u4, d5, h⟩ := gf_cl_ok h
  refine gw_callSi (As := [.int sx0, .int sx1, .int sx2]) (rest := []) C hW (fun _ h => Or.inr h) hl.1 gm_Model_within (gc_Model_within l F  d5 _) gk_398 gk_399 rfl rfl ⟨Nat.le_of_ble_eq_true rfl, Nat.le_of_ble_eq_true rfl⟩ ⟨Nat.zero_le _, Nat.zero_le _⟩ rfl rfl (Nat.le_of_ble_eq_true rfl) gd_Model_speed_34 (fun H locs hW => ?_)
  refine lv_if_ne (tgt := 46) hx hb gd_Model_speed_37 (by decide) (fun c7 => ?_) (fun c7 => ?_)
  · have h := gf_f c7 h
    refine lv_aload_n hx hb gd_Model_speed_46 rfl (lv_at hl 0 rfl) ?_
    obtain ⟨q8, e9, h⟩ := gf_nn_ok h
    refine gw_getr (k := 28) (ty := 12) (ref := R_Model) C hW o_t0 (by decide) rfl gi_Model rfl (by decide) rfl rfl gk_463 gd_Model_speed_47 e9 ?_
    have o_q8 := hW.ref (d := 12) o_t0 e9 rfl
    refine lv_iload_n hx hb gd_Model_speed_50 rfl (lv_at hl 1 rfl) ?_
    obtain ⟨g10, h⟩ := gf_if_ok h
    refine gw_zald C hW o_q8 g10 gd_Model_speed_51 ?_
    refine lv_if_ne (tgt := 61) hx hb gd_Model_speed_52 (by decide) (fun c11 => ?_) (fun c11 => ?_)
    · have h := gf_f c11 h
      refine lv_iload_n hx hb gd_Model_speed_61 rfl (lv_at hl 2 rfl) ?_
      refine lv_if_ne (tgt := 74) hx hb gd_Model_speed_62 (by decide) (fun c12 => ?_) (fun c12 => ?_)
      · have h := gf_f c12 h
        refine lv_iload_n hx hb gd_Model_speed_74 rfl (lv_at hl 2 rfl) ?_
        refine lv_iconst (v := 1) hx hb gd_Model_speed_75 (by decide) ?_
        refine lv_icmp_ne (tgt := 91) hx hb gd_Model_speed_76 (by decide) (fun c13 => ?_) (fun c13 => ?_)
        · have h := gf_f c13 h
          refine lv_aload_n hx hb gd_Model_speed_91 rfl (lv_at hl 0 rfl) ?_
          obtain ⟨q14, e15, h⟩ := gf_nn_ok h
          refine gw_getr (k := 31) (ty := 10) (ref := R_Model) C hW o_t0 (by decide) rfl gi_Model rfl (by decide) rfl rfl gk_617 gd_Model_speed_92 e15 ?_
          have o_q14 := hW.ref (d := 10) o_t0 e15 rfl
          refine lv_iload_n hx hb gd_Model_speed_95 rfl (lv_at hl 1 rfl) ?_
          refine lv_iload_n hx hb gd_Model_speed_96 rfl (lv_at hl 3 rfl) ?_
          obtain ⟨a18, u16, d17, h⟩ := gf_cl_ok h
          refine gw_callSi (As := [.ref (hs q14), .int x1, .int x3]) (rest := []) C hW (fun _ h => Or.inr h) hl.1 gm_Model_word (gc_Model_word l F o_q14 d17 _) gk_627 gk_628 rfl rfl ⟨Nat.le_of_ble_eq_true rfl, Nat.le_of_ble_eq_true rfl⟩ ⟨Nat.zero_le _, Nat.zero_le _⟩ rfl rfl (Nat.le_of_ble_eq_true rfl) gd_Model_speed_97 (fun H locs hW => ?_)
          exact gx_Model_speed_b100 F C hr hk  u16 a18  hW (lv_sub hl [] rfl) h
        · have h := gf_t c13 h
          refine lv_aload_n hx hb gd_Model_speed_79 rfl (lv_at hl 0 rfl) ?_
          obtain ⟨q19, e20, h⟩ := gf_nn_ok h
          refine gw_getr (k := 30) (ty := 10) (ref := R_Model) C hW o_t0 (by decide) rfl gi_Model rfl (by decide) rfl rfl gk_616 gd_Model_speed_80 e20 ?_
          have o_q19 := hW.ref (d := 10) o_t0 e20 rfl
          refine lv_iload_n hx hb gd_Model_speed_83 rfl (lv_at hl 1 rfl) ?_
          refine lv_iload_n hx hb gd_Model_speed_84 rfl (lv_at hl 3 rfl) ?_
          obtain ⟨a23, u21, d22, h⟩ := gf_cl_ok h
          refine gw_callSi (As := [.ref (hs q19), .int x1, .int x3]) (rest := []) C hW (fun _ h => Or.inr h) hl.1 gm_Model_word (gc_Model_word l F o_q19 d22 _) gk_627 gk_628 rfl rfl ⟨Nat.le_of_ble_eq_true rfl, Nat.le_of_ble_eq_true rfl⟩ ⟨Nat.zero_le _, Nat.zero_le _⟩ rfl rfl (Nat.le_of_ble_eq_true rfl) gd_Model_speed_85 (fun H locs hW => ?_)
          refine lv_goto (tgt := 100) hx hb gd_Model_speed_88 (by decide) ?_
          exact gx_Model_speed_b100 F C hr hk  u21 a23  hW (lv_sub hl [] rfl) h
      · have h := gf_t c12 h
        refine lv_aload_n hx hb gd_Model_speed_65 rfl (lv_at hl 0 rfl) ?_
        obtain ⟨q24, e25, h⟩ := gf_nn_ok h
        refine gw_getr (k := 29) (ty := 10) (ref := R_Model) C hW o_t0 (by decide) rfl gi_Model rfl (by decide) rfl rfl gk_618 gd_Model_speed_66 e25 ?_
        have o_q24 := hW.ref (d := 10) o_t0 e25 rfl
        refine lv_iload_n hx hb gd_Model_speed_69 rfl (lv_at hl 1 rfl) ?_
        obtain ⟨g26, h⟩ := gf_if_ok h
        refine gw_iald C hW o_q24 g26 gd_Model_speed_70 ?_
        refine lv_goto (tgt := 100) hx hb gd_Model_speed_71 (by decide) ?_
        exact gx_Model_speed_b100 F C hr hk  u4 (u4.1 q24 (x1).toNatClampNeg)  hW (lv_sub hl [] rfl) h
    · have h := gf_t c11 h
      refine lv_aload_n hx hb gd_Model_speed_55 rfl (lv_at hl 0 rfl) ?_
      refine lv_iconst (v := 2) hx hb gd_Model_speed_56 (by decide) ?_
      obtain ⟨a29, u27, d28, h⟩ := gf_cl_ok h
      refine gw_callVi (K := R_Model) (As := [.int (2 : Int32)]) (rest := []) C hW (fun _ h => Or.inr h) hl.1 gm_Model_fail (gc_Model_fail l F o_t0 d28 _) gk_385 gk_386 gk_387 o_t0 (by decide) rfl rfl rfl ⟨Nat.le_of_ble_eq_true rfl, Nat.le_of_ble_eq_true rfl⟩ ⟨Nat.zero_le _, Nat.zero_le _⟩ rfl rfl (Nat.le_of_ble_eq_true rfl) gd_Model_speed_57 (fun H locs hW => ?_)
      obtain rfl := Option.some.inj h
      exact gw_iret C hW hr hk gd_Model_speed_60
  · have h := gf_t c7 h
    exact gx_Model_speed_b40 F C hr hk  u4 t0 o_t0 hW (lv_sub hl [0] rfl) h

set_option maxHeartbeats 4000000 in
set_option maxRecDepth 20000 in
theorem gx_Model_speed_b0 {p : Program} {l : Launch} {e : Env} {s : State} {m : MethodId} {args : Array Value} {below : List Frame} {meth : Method} {c : Code} {D : va_G} {cA : Nat → ClassId} {hs : Nat → Nat} {z : gw_Sh} (F : Nat) {r0 : (Int32 × gw_St)} (C : gw_Cx p s m args c gb_Model_speed 4 R_Model D cA) (hr : meth.sig.returnType = (some .int)) (hk : meth.locks = false) (u : gw_St) (t0 : Nat) (x1 : Int32) (x2 : Int32) (x3 : Int32) (o_t0 : gw_ok z t0 9) {H : Heap} {locs : List Loc} {ls : Array Slot} (hW : gw_Wx D cA hs z s u H locs) (hl : lv_has ls 4 [(0, .ref (hs t0)), (1, .int x1), (2, .int x2), (3, .int x3)]) (h : gf_Model_speed_b0 F z   u t0 x1 x2 x3 = some r0) : gw_Gi p l e gr_Model_speed s m args below meth c D cA hs z r0 H locs ls 0 [] := by
  obtain ⟨hx, hb, hml, hown, hts, hK⟩ := id C
  unfold gf_Model_speed_b0 at h
  refine lv_aload_n hx hb gd_Model_speed_0 rfl (lv_at hl 0 rfl) ?_
  refine lv_iconst (v := 0) hx hb gd_Model_speed_1 (by decide) ?_
  refine gw_puti (k := 0) (ref := R_Model) (fty := .int) C hW o_t0 (by decide) rfl gi_Model rfl (by decide) rfl rfl gk_376 tf_Model tf_Model_ok nm_Model rfl rfl rfl rfl gd_Model_speed_2 (fun u30 H locs e31 hW => ?_)
  have h := gf_nm_ok e31 h
  refine lv_aload_n hx hb gd_Model_speed_5 rfl (lv_at hl 0 rfl) ?_
  refine lv_iload_n hx hb gd_Model_speed_6 rfl (lv_at hl 1 rfl) ?_
  obtain ⟨a34, u32, d33, h⟩ := gf_cl_ok h
  refine gw_callVi (K := R_Model) (As := [.int x1]) (rest := []) C hW (fun _ h => Or.inr h) hl.1 gm_Model_isGear (gc_Model_isGear l F o_t0 d33 _) gk_471 gk_472 gk_473 o_t0 (by decide) rfl rfl rfl ⟨Nat.le_of_ble_eq_true rfl, Nat.le_of_ble_eq_true rfl⟩ ⟨Nat.zero_le _, Nat.zero_le _⟩ rfl rfl (Nat.le_of_ble_eq_true rfl) gd_Model_speed_7 (fun H locs hW => ?_)
  refine lv_if_eq (tgt := 40) hx hb gd_Model_speed_10 (by decide) (fun c35 => ?_) (fun c35 => ?_)
  · have h := gf_t c35 h
    exact gx_Model_speed_b40 F C hr hk  u32 t0 o_t0 hW (lv_sub hl [0] rfl) h
  · have h := gf_f c35 h
    refine lv_iload_n hx hb gd_Model_speed_13 rfl (lv_at hl 2 rfl) ?_
    refine lv_iconst (v := 0) hx hb gd_Model_speed_14 (by decide) ?_
    refine lv_iconst (v := 2) hx hb gd_Model_speed_15 (by decide) ?_
    obtain ⟨a38, u36, d37, h⟩ := gf_cl_ok h
    refine gw_callSi (As := [.int x2, .int (0 : Int32), .int (2 : Int32)]) (rest := []) C hW (fun _ h => Or.inr h) hl.1 gm_Model_within (gc_Model_within l F  d37 _) gk_398 gk_399 rfl rfl ⟨Nat.le_of_ble_eq_true rfl, Nat.le_of_ble_eq_true rfl⟩ ⟨Nat.zero_le _, Nat.zero_le _⟩ rfl rfl (Nat.le_of_ble_eq_true rfl) gd_Model_speed_16 (fun H locs hW => ?_)
    refine lv_if_eq (tgt := 40) hx hb gd_Model_speed_19 (by decide) (fun c39 => ?_) (fun c39 => ?_)
    · have h := gf_t c39 h
      exact gx_Model_speed_b40 F C hr hk  u36 t0 o_t0 hW (lv_sub hl [0] rfl) h
    · have h := gf_f c39 h
      refine lv_iload_n hx hb gd_Model_speed_22 rfl (lv_at hl 3 rfl) ?_
      refine lv_iconst (v := 0) hx hb gd_Model_speed_23 (by decide) ?_
      refine lv_iload_n hx hb gd_Model_speed_24 rfl (lv_at hl 2 rfl) ?_
      refine lv_if_ne (tgt := 32) hx hb gd_Model_speed_25 (by decide) (fun c40 => ?_) (fun c40 => ?_)
      · have h := gf_f c40 h
        refine lv_bipush (v := 7) hx hb gd_Model_speed_32 (by decide) ?_
        exact gx_Model_speed_b34 F C hr hk  u36 t0 x1 x2 x3 x3 0 7 o_t0 hW (lv_sub hl [0, 1, 2, 3] rfl) h
      · have h := gf_t c40 h
        refine lv_iconst (v := 0) hx hb gd_Model_speed_28 (by decide) ?_
        refine lv_goto (tgt := 34) hx hb gd_Model_speed_29 (by decide) ?_
        exact gx_Model_speed_b34 F C hr hk  u36 t0 x1 x2 x3 x3 0 0 o_t0 hW (lv_sub hl [0, 1, 2, 3] rfl) h

set_option maxRecDepth 20000 in
theorem gc_Model_speed (l : Launch) {D : va_G} {cA : Nat → ClassId} {hs : Nat → Nat} {z : gw_Sh} (F : Nat) {u : gw_St} {r0 : (Int32 × gw_St)} {t0 : Nat} {x1 : Int32} {x2 : Int32} {x3 : Int32} (o_t0 : gw_ok z t0 9) (h : gf_Model_speed F z u t0 x1 x2 x3 = some r0) (sz : Nat) : gw_Mi l gy_Model_speed gb_Model_speed 4 (some .int) gr_Model_speed [.ref (hs t0), .int x1, .int x2, .int x3] D cA hs z u sz r0 := by
  refine gw_enter (by decide) (Nat.le_of_ble_eq_true rfl) ?_
  intro p e s m below meth c ls hsz C hW hr hk _ hl
  subst hsz
  exact gx_Model_speed_b0 F C hr hk u t0 x1 x2 x3 o_t0 hW (lv_sub hl [0, 1, 2, 3] rfl) h
-- GearDeskModel.dial(III)I
theorem gk_630 : Cond.constant R_Model 341 100000 ∈ gt_T := gt_m7 (List.mem_of_getElem? (i := 206) rfl) rfl
theorem gk_631 : Cond.fieldLink R_Model 39 R_Model "dialGear" "[I" ∈ gt_T := gt_m6 (List.mem_of_getElem? (i := 78) rfl) rfl
theorem gk_632 : Cond.fieldLink R_Model 42 R_Model "divisions" "[I" ∈ gt_T := gt_m6 (List.mem_of_getElem? (i := 79) rfl) rfl
def gy_Model_dial : MethodName := ⟨R_Model, "dial", "(III)I"⟩
abbrev gb_Model_dial : ByteArray := prog_11_method_69_code
theorem gk_633 : Cond.code gy_Model_dial gb_Model_dial 5 (some .int) ∈ gt_T := gt_m7 (List.mem_of_getElem? (i := 205) rfl) rfl
def gr_Model_dial : Room := gw_rm 3 107
theorem gm_Model_dial : gw_Mth gy_Model_dial gb_Model_dial 5 (some .int) 3 := ⟨gk_633, gk_377, ⟨by decide +kernel, by decide +kernel⟩, by decide +kernel⟩
theorem gd_Model_dial_0 : decode gb_Model_dial 0 = .ok (.aload_n 0, 1) := by decide +kernel
theorem gd_Model_dial_1 : decode gb_Model_dial 1 = .ok (.iconst 0, 1) := by decide +kernel
theorem gd_Model_dial_2 : decode gb_Model_dial 2 = .ok (.putfield 112, 3) := by decide +kernel
theorem gd_Model_dial_5 : decode gb_Model_dial 5 = .ok (.iload_n 1, 1) := by decide +kernel
theorem gd_Model_dial_6 : decode gb_Model_dial 6 = .ok (.iconst 0, 1) := by decide +kernel
theorem gd_Model_dial_7 : decode gb_Model_dial 7 = .ok (.bipush 11, 2) := by decide +kernel
theorem gd_Model_dial_9 : decode gb_Model_dial 9 = .ok (.invokestatic 119, 3) := by decide +kernel
theorem gd_Model_dial_12 : decode gb_Model_dial 12 = .ok (.ifCond .eq 11, 3) := by decide +kernel
theorem gd_Model_dial_15 : decode gb_Model_dial 15 = .ok (.aload_n 0, 1) := by decide +kernel
theorem gd_Model_dial_16 : decode gb_Model_dial 16 = .ok (.iload_n 2, 1) := by decide +kernel
theorem gd_Model_dial_17 : decode gb_Model_dial 17 = .ok (.invokevirtual 220, 3) := by decide +kernel
theorem gd_Model_dial_20 : decode gb_Model_dial 20 = .ok (.ifCond .ne 9, 3) := by decide +kernel
theorem gd_Model_dial_23 : decode gb_Model_dial 23 = .ok (.aload_n 0, 1) := by decide +kernel
theorem gd_Model_dial_24 : decode gb_Model_dial 24 = .ok (.iconst 1, 1) := by decide +kernel
theorem gd_Model_dial_25 : decode gb_Model_dial 25 = .ok (.invokevirtual 123, 3) := by decide +kernel
theorem gd_Model_dial_28 : decode gb_Model_dial 28 = .ok (.ireturn, 1) := by decide +kernel
theorem gd_Model_dial_29 : decode gb_Model_dial 29 = .ok (.iload_n 3, 1) := by decide +kernel
theorem gd_Model_dial_30 : decode gb_Model_dial 30 = .ok (.iconst 1, 1) := by decide +kernel
theorem gd_Model_dial_31 : decode gb_Model_dial 31 = .ok (.ldc_w 341, 3) := by decide +kernel
theorem gd_Model_dial_34 : decode gb_Model_dial 34 = .ok (.invokestatic 119, 3) := by decide +kernel
theorem gd_Model_dial_37 : decode gb_Model_dial 37 = .ok (.ifCond .ne 9, 3) := by decide +kernel
theorem gd_Model_dial_40 : decode gb_Model_dial 40 = .ok (.aload_n 0, 1) := by decide +kernel
theorem gd_Model_dial_41 : decode gb_Model_dial 41 = .ok (.iconst 2, 1) := by decide +kernel
theorem gd_Model_dial_42 : decode gb_Model_dial 42 = .ok (.invokevirtual 123, 3) := by decide +kernel
theorem gd_Model_dial_45 : decode gb_Model_dial 45 = .ok (.ireturn, 1) := by decide +kernel
theorem gd_Model_dial_46 : decode gb_Model_dial 46 = .ok (.aload_n 0, 1) := by decide +kernel
theorem gd_Model_dial_47 : decode gb_Model_dial 47 = .ok (.getfield 39, 3) := by decide +kernel
theorem gd_Model_dial_50 : decode gb_Model_dial 50 = .ok (.iload_n 1, 1) := by decide +kernel
theorem gd_Model_dial_51 : decode gb_Model_dial 51 = .ok (.iaload, 1) := by decide +kernel
theorem gd_Model_dial_52 : decode gb_Model_dial 52 = .ok (.istore 4, 2) := by decide +kernel
theorem gd_Model_dial_54 : decode gb_Model_dial 54 = .ok (.aload_n 0, 1) := by decide +kernel
theorem gd_Model_dial_55 : decode gb_Model_dial 55 = .ok (.getfield 39, 3) := by decide +kernel
theorem gd_Model_dial_58 : decode gb_Model_dial 58 = .ok (.iload_n 1, 1) := by decide +kernel
theorem gd_Model_dial_59 : decode gb_Model_dial 59 = .ok (.iload_n 2, 1) := by decide +kernel
theorem gd_Model_dial_60 : decode gb_Model_dial 60 = .ok (.iastore, 1) := by decide +kernel
theorem gd_Model_dial_61 : decode gb_Model_dial 61 = .ok (.aload_n 0, 1) := by decide +kernel
theorem gd_Model_dial_62 : decode gb_Model_dial 62 = .ok (.getfield 42, 3) := by decide +kernel
theorem gd_Model_dial_65 : decode gb_Model_dial 65 = .ok (.iload_n 1, 1) := by decide +kernel
theorem gd_Model_dial_66 : decode gb_Model_dial 66 = .ok (.iload_n 3, 1) := by decide +kernel
theorem gd_Model_dial_67 : decode gb_Model_dial 67 = .ok (.iastore, 1) := by decide +kernel
theorem gd_Model_dial_68 : decode gb_Model_dial 68 = .ok (.iload 4, 2) := by decide +kernel
theorem gd_Model_dial_70 : decode gb_Model_dial 70 = .ok (.ireturn, 1) := by decide +kernel
def gf_Model_dial_b23 (F : Nat) (z : gw_Sh)  (u : gw_St) (t0 : Nat) : Option (Int32 × gw_St) :=
  gf_cl (gf_Model_fail F z u t0 (1 : Int32)) fun a3 u1 => some (a3, u1)
def gf_Model_dial_b0 (F : Nat) (z : gw_Sh)  (u : gw_St) (t0 : Nat) (x1 : Int32) (x2 : Int32) (x3 : Int32) : Option (Int32 × gw_St) :=
  gf_nm (gw_wi u t0 0 (0 : Int32)) fun u4 => gf_cl (gf_Model_within F z u4 x1 (0 : Int32) (11 : Int32)) fun a8 u6 => if a8 = 0 then (gf_Model_dial_b23 F z  u6 t0) else (gf_cl (gf_Model_isGear F z u6 t0 x2) fun a12 u10 => if a12 = 0 then (gf_Model_dial_b23 F z  u10 t0) else (gf_cl (gf_Model_within F z u10 x3 (1 : Int32) (100000 : Int32)) fun a16 u14 => if a16 = 0 then (gf_cl (gf_Model_fail F z u14 t0 (2 : Int32)) fun a35 u33 => some (a35, u33)) else (gf_nn (u14.2.2 t0 26) fun q18 => if (x1 < 0 ∨ z.2.2 q18 ≤ (x1).toNatClampNeg) then none else gf_nm (u14.1 q18 (x1).toNatClampNeg) fun a21 => gf_nn (u14.2.2 t0 26) fun q23 => if (x1 < 0 ∨ z.2.2 q23 ≤ (x1).toNatClampNeg) then none else gf_nm (gw_wi u14 q23 (x1).toNatClampNeg x2) fun u26 => gf_nn (u26.2.2 t0 27) fun q28 => if (x1 < 0 ∨ z.2.2 q28 ≤ (x1).toNatClampNeg) then none else gf_nm (gw_wi u26 q28 (x1).toNatClampNeg x3) fun u31 => some (a21, u31))))
def gf_Model_dial (F : Nat) (z : gw_Sh) (u : gw_St) (t0 : Nat) (x1 : Int32) (x2 : Int32) (x3 : Int32) : Option (Int32 × gw_St) := gf_Model_dial_b0 F z  u t0 x1 x2 x3
set_option maxHeartbeats 4000000 in
set_option maxRecDepth 20000 in
theorem gx_Model_dial_b23 {p : Program} {l : Launch} {e : Env} {s : State} {m : MethodId} {args : Array Value} {below : List Frame} {meth : Method} {c : Code} {D : va_G} {cA : Nat → ClassId} {hs : Nat → Nat} {z : gw_Sh} (F : Nat) {r0 : (Int32 × gw_St)} (C : gw_Cx p s m args c gb_Model_dial 5 R_Model D cA) (hr : meth.sig.returnType = (some .int)) (hk : meth.locks = false) (u : gw_St) (t0 : Nat) (o_t0 : gw_ok z t0 9) {H : Heap} {locs : List Loc} {ls : Array Slot} (hW : gw_Wx D cA hs z s u H locs) (hl : lv_has ls 5 [(0, .ref (hs t0))]) (h : gf_Model_dial_b23 F z   u t0 = some r0) : gw_Gi p l e gr_Model_dial s m args below meth c D cA hs z r0 H locs ls 23 [] := by
  obtain ⟨hx, hb, hml, hown, hts, hK⟩ := id C
  unfold gf_Model_dial_b23 at h
  refine lv_aload_n hx hb gd_Model_dial_23 rfl (lv_at hl 0 rfl) ?_
  refine lv_iconst (v := 1) hx hb gd_Model_dial_24 (by decide) ?_
  obtain ⟨a3, u1, d2, h⟩ := gf_cl_ok h
  refine gw_callVi (K := R_Model) (As := [.int (1 : Int32)]) (rest := []) C hW (fun _ h => Or.inr h) hl.1 gm_Model_fail (gc_Model_fail l F o_t0 d2 _) gk_385 gk_386 gk_387 o_t0 (by decide) rfl rfl rfl ⟨Nat.le_of_ble_eq_true rfl, Nat.le_of_ble_eq_true rfl⟩ ⟨Nat.zero_le _, Nat.zero_le _⟩ rfl rfl (Nat.le_of_ble_eq_true rfl) gd_Model_dial_25 (fun H locs hW => ?_)
  obtain rfl := Option.some.inj h
  exact gw_iret C hW hr hk gd_Model_dial_28

set_option maxHeartbeats 4000000 in
set_option maxRecDepth 20000 in
theorem gx_Model_dial_b0 {p : Program} {l : Launch} {e : Env} {s : State} {m : MethodId} {args : Array Value} {below : List Frame} {meth : Method} {c : Code} {D : va_G} {cA : Nat → ClassId} {hs : Nat → Nat} {z : gw_Sh} (F : Nat) {r0 : (Int32 × gw_St)} (C : gw_Cx p s m args c gb_Model_dial 5 R_Model D cA) (hr : meth.sig.returnType = (some .int)) (hk : meth.locks = false) (u : gw_St) (t0 : Nat) (x1 : Int32) (x2 : Int32) (x3 : Int32) (o_t0 : gw_ok z t0 9) {H : Heap} {locs : List Loc} {ls : Array Slot} (hW : gw_Wx D cA hs z s u H locs) (hl : lv_has ls 5 [(0, .ref (hs t0)), (1, .int x1), (2, .int x2), (3, .int x3)]) (h : gf_Model_dial_b0 F z   u t0 x1 x2 x3 = some r0) : gw_Gi p l e gr_Model_dial s m args below meth c D cA hs z r0 H locs ls 0 [] := by
  obtain ⟨hx, hb, hml, hown, hts, hK⟩ := id C
  unfold gf_Model_dial_b0 at h
  refine lv_aload_n hx hb gd_Model_dial_0 rfl (lv_at hl 0 rfl) ?_
  refine lv_iconst (v := 0) hx hb gd_Model_dial_1 (by decide) ?_
  refine gw_puti (k := 0) (ref := R_Model) (fty := .int) C hW o_t0 (by decide) rfl gi_Model rfl (by decide) rfl rfl gk_376 tf_Model tf_Model_ok nm_Model rfl rfl rfl rfl gd_Model_dial_2 (fun u4 H locs e5 hW => ?_)
  have h := gf_nm_ok e5 h
  refine lv_iload_n hx hb gd_Model_dial_5 rfl (lv_at hl 1 rfl) ?_
  refine lv_iconst (v := 0) hx hb gd_Model_dial_6 (by decide) ?_
  refine lv_bipush (v := 11) hx hb gd_Model_dial_7 (by decide) ?_
  obtain ⟨a8, u6, d7, h⟩ := gf_cl_ok h
  refine gw_callSi (As := [.int x1, .int (0 : Int32), .int (11 : Int32)]) (rest := []) C hW (fun _ h => Or.inr h) hl.1 gm_Model_within (gc_Model_within l F  d7 _) gk_398 gk_399 rfl rfl ⟨Nat.le_of_ble_eq_true rfl, Nat.le_of_ble_eq_true rfl⟩ ⟨Nat.zero_le _, Nat.zero_le _⟩ rfl rfl (Nat.le_of_ble_eq_true rfl) gd_Model_dial_9 (fun H locs hW => ?_)
  refine lv_if_eq (tgt := 23) hx hb gd_Model_dial_12 (by decide) (fun c9 => ?_) (fun c9 => ?_)
  · have h := gf_t c9 h
    exact gx_Model_dial_b23 F C hr hk  u6 t0 o_t0 hW (lv_sub hl [0] rfl) h
  · have h := gf_f c9 h
    refine lv_aload_n hx hb gd_Model_dial_15 rfl (lv_at hl 0 rfl) ?_
    refine lv_iload_n hx hb gd_Model_dial_16 rfl (lv_at hl 2 rfl) ?_
    obtain ⟨a12, u10, d11, h⟩ := gf_cl_ok h
    refine gw_callVi (K := R_Model) (As := [.int x2]) (rest := []) C hW (fun _ h => Or.inr h) hl.1 gm_Model_isGear (gc_Model_isGear l F o_t0 d11 _) gk_471 gk_472 gk_473 o_t0 (by decide) rfl rfl rfl ⟨Nat.le_of_ble_eq_true rfl, Nat.le_of_ble_eq_true rfl⟩ ⟨Nat.zero_le _, Nat.zero_le _⟩ rfl rfl (Nat.le_of_ble_eq_true rfl) gd_Model_dial_17 (fun H locs hW => ?_)
    refine lv_if_ne (tgt := 29) hx hb gd_Model_dial_20 (by decide) (fun c13 => ?_) (fun c13 => ?_)
    · have h := gf_f c13 h
      refine lv_iload_n hx hb gd_Model_dial_29 rfl (lv_at hl 3 rfl) ?_
      refine lv_iconst (v := 1) hx hb gd_Model_dial_30 (by decide) ?_
      refine lv_ldcw (v := 100000) hx hb hown (hts _ gk_630) gd_Model_dial_31 ?_
      obtain ⟨a16, u14, d15, h⟩ := gf_cl_ok h
      refine gw_callSi (As := [.int x3, .int (1 : Int32), .int (100000 : Int32)]) (rest := []) C hW (fun _ h => Or.inr h) hl.1 gm_Model_within (gc_Model_within l F  d15 _) gk_398 gk_399 rfl rfl ⟨Nat.le_of_ble_eq_true rfl, Nat.le_of_ble_eq_true rfl⟩ ⟨Nat.zero_le _, Nat.zero_le _⟩ rfl rfl (Nat.le_of_ble_eq_true rfl) gd_Model_dial_34 (fun H locs hW => ?_)
      refine lv_if_ne (tgt := 46) hx hb gd_Model_dial_37 (by decide) (fun c17 => ?_) (fun c17 => ?_)
      · have h := gf_f c17 h
        refine lv_aload_n hx hb gd_Model_dial_46 rfl (lv_at hl 0 rfl) ?_
        obtain ⟨q18, e19, h⟩ := gf_nn_ok h
        refine gw_getr (k := 26) (ty := 10) (ref := R_Model) C hW o_t0 (by decide) rfl gi_Model rfl (by decide) rfl rfl gk_631 gd_Model_dial_47 e19 ?_
        have o_q18 := hW.ref (d := 10) o_t0 e19 rfl
        refine lv_iload_n hx hb gd_Model_dial_50 rfl (lv_at hl 1 rfl) ?_
        obtain ⟨g20, h⟩ := gf_if_ok h
        refine gw_iald C hW o_q18 g20 gd_Model_dial_51 ?_
        refine lv_topi (fun a21 e22 => ?_)
        have h := gf_nm_ok e22 h
        refine lv_istore (lv' := [(4, .int a21), (0, .ref (hs t0)), (1, .int x1), (2, .int x2), (3, .int x3)]) hx hb gd_Model_dial_52 hl (by decide) rfl (fun ls hl => ?_)
        refine lv_aload_n hx hb gd_Model_dial_54 rfl (lv_at hl 1 rfl) ?_
        obtain ⟨q23, e24, h⟩ := gf_nn_ok h
        refine gw_getr (k := 26) (ty := 10) (ref := R_Model) C hW o_t0 (by decide) rfl gi_Model rfl (by decide) rfl rfl gk_631 gd_Model_dial_55 e24 ?_
        have o_q23 := hW.ref (d := 10) o_t0 e24 rfl
        refine lv_iload_n hx hb gd_Model_dial_58 rfl (lv_at hl 2 rfl) ?_
        refine lv_iload_n hx hb gd_Model_dial_59 rfl (lv_at hl 3 rfl) ?_
        obtain ⟨g25, h⟩ := gf_if_ok h
        refine gw_iast C hW o_q23 g25 gd_Model_dial_60 (fun u26 H locs e27 hW => ?_)
        have h := gf_nm_ok e27 h
        refine lv_aload_n hx hb gd_Model_dial_61 rfl (lv_at hl 1 rfl) ?_
        obtain ⟨q28, e29, h⟩ := gf_nn_ok h
        refine gw_getr (k := 27) (ty := 10) (ref := R_Model) C hW o_t0 (by decide) rfl gi_Model rfl (by decide) rfl rfl gk_632 gd_Model_dial_62 e29 ?_
        have o_q28 := hW.ref (d := 10) o_t0 e29 rfl
        refine lv_iload_n hx hb gd_Model_dial_65 rfl (lv_at hl 2 rfl) ?_
        refine lv_iload_n hx hb gd_Model_dial_66 rfl (lv_at hl 4 rfl) ?_
        obtain ⟨g30, h⟩ := gf_if_ok h
        refine gw_iast C hW o_q28 g30 gd_Model_dial_67 (fun u31 H locs e32 hW => ?_)
        have h := gf_nm_ok e32 h
        refine lv_iload hx hb gd_Model_dial_68 (lv_at hl 0 rfl) ?_
        obtain rfl := Option.some.inj h
        exact gw_iret C hW hr hk gd_Model_dial_70
      · have h := gf_t c17 h
        refine lv_aload_n hx hb gd_Model_dial_40 rfl (lv_at hl 0 rfl) ?_
        refine lv_iconst (v := 2) hx hb gd_Model_dial_41 (by decide) ?_
        obtain ⟨a35, u33, d34, h⟩ := gf_cl_ok h
        refine gw_callVi (K := R_Model) (As := [.int (2 : Int32)]) (rest := []) C hW (fun _ h => Or.inr h) hl.1 gm_Model_fail (gc_Model_fail l F o_t0 d34 _) gk_385 gk_386 gk_387 o_t0 (by decide) rfl rfl rfl ⟨Nat.le_of_ble_eq_true rfl, Nat.le_of_ble_eq_true rfl⟩ ⟨Nat.zero_le _, Nat.zero_le _⟩ rfl rfl (Nat.le_of_ble_eq_true rfl) gd_Model_dial_42 (fun H locs hW => ?_)
        obtain rfl := Option.some.inj h
        exact gw_iret C hW hr hk gd_Model_dial_45
    · have h := gf_t c13 h
      exact gx_Model_dial_b23 F C hr hk  u10 t0 o_t0 hW (lv_sub hl [0] rfl) h

set_option maxRecDepth 20000 in
theorem gc_Model_dial (l : Launch) {D : va_G} {cA : Nat → ClassId} {hs : Nat → Nat} {z : gw_Sh} (F : Nat) {u : gw_St} {r0 : (Int32 × gw_St)} {t0 : Nat} {x1 : Int32} {x2 : Int32} {x3 : Int32} (o_t0 : gw_ok z t0 9) (h : gf_Model_dial F z u t0 x1 x2 x3 = some r0) (sz : Nat) : gw_Mi l gy_Model_dial gb_Model_dial 5 (some .int) gr_Model_dial [.ref (hs t0), .int x1, .int x2, .int x3] D cA hs z u sz r0 := by
  refine gw_enter (by decide) (Nat.le_of_ble_eq_true rfl) ?_
  intro p e s m below meth c ls hsz C hW hr hk _ hl
  subst hsz
  exact gx_Model_dial_b0 F C hr hk u t0 x1 x2 x3 o_t0 hW (lv_sub hl [0, 1, 2, 3] rfl) h
-- GearDeskModel.isDial(I)Z
def gy_Model_isDial : MethodName := ⟨R_Model, "isDial", "(I)Z"⟩
abbrev gb_Model_isDial : ByteArray := prog_11_method_70_code
theorem gk_634 : Cond.code gy_Model_isDial gb_Model_isDial 2 (some .boolean) ∈ gt_T := gt_m7 (List.mem_of_getElem? (i := 214) rfl) rfl
def gr_Model_isDial : Room := gw_rm 2 86
theorem gm_Model_isDial : gw_Mth gy_Model_isDial gb_Model_isDial 2 (some .boolean) 1 := ⟨gk_634, gk_377, ⟨by decide +kernel, by decide +kernel⟩, by decide +kernel⟩
theorem gd_Model_isDial_0 : decode gb_Model_isDial 0 = .ok (.iload_n 1, 1) := by decide +kernel
theorem gd_Model_isDial_1 : decode gb_Model_isDial 1 = .ok (.iconst 0, 1) := by decide +kernel
theorem gd_Model_isDial_2 : decode gb_Model_isDial 2 = .ok (.bipush 11, 2) := by decide +kernel
theorem gd_Model_isDial_4 : decode gb_Model_isDial 4 = .ok (.invokestatic 119, 3) := by decide +kernel
theorem gd_Model_isDial_7 : decode gb_Model_isDial 7 = .ok (.ifCond .eq 16, 3) := by decide +kernel
theorem gd_Model_isDial_10 : decode gb_Model_isDial 10 = .ok (.aload_n 0, 1) := by decide +kernel
theorem gd_Model_isDial_11 : decode gb_Model_isDial 11 = .ok (.getfield 39, 3) := by decide +kernel
theorem gd_Model_isDial_14 : decode gb_Model_isDial 14 = .ok (.iload_n 1, 1) := by decide +kernel
theorem gd_Model_isDial_15 : decode gb_Model_isDial 15 = .ok (.iaload, 1) := by decide +kernel
theorem gd_Model_isDial_16 : decode gb_Model_isDial 16 = .ok (.ifCond .lt 7, 3) := by decide +kernel
theorem gd_Model_isDial_19 : decode gb_Model_isDial 19 = .ok (.iconst 1, 1) := by decide +kernel
theorem gd_Model_isDial_20 : decode gb_Model_isDial 20 = .ok (.goto 4, 3) := by decide +kernel
theorem gd_Model_isDial_23 : decode gb_Model_isDial 23 = .ok (.iconst 0, 1) := by decide +kernel
theorem gd_Model_isDial_24 : decode gb_Model_isDial 24 = .ok (.ireturn, 1) := by decide +kernel
def gf_Model_isDial_b24 (F : Nat) (z : gw_Sh)  (u : gw_St) (sx0 : Int32) : Option (Int32 × gw_St) :=
  if ¬ (sx0 &&& 1 = sx0) then none else some (sx0, u)
def gf_Model_isDial_b23 (F : Nat) (z : gw_Sh)  (u : gw_St)  : Option (Int32 × gw_St) :=
  gf_Model_isDial_b24 F z  u 0
def gf_Model_isDial_b0 (F : Nat) (z : gw_Sh)  (u : gw_St) (t0 : Nat) (x1 : Int32) : Option (Int32 × gw_St) :=
  gf_cl (gf_Model_within F z u x1 (0 : Int32) (11 : Int32)) fun a4 u2 => if a4 = 0 then (gf_Model_isDial_b23 F z  u2 ) else (gf_nn (u2.2.2 t0 26) fun q6 => if (x1 < 0 ∨ z.2.2 q6 ≤ (x1).toNatClampNeg) then none else if (u2.1 q6 (x1).toNatClampNeg) < 0 then (gf_Model_isDial_b23 F z  u2 ) else (gf_Model_isDial_b24 F z  u2 1))
def gf_Model_isDial (F : Nat) (z : gw_Sh) (u : gw_St) (t0 : Nat) (x1 : Int32) : Option (Int32 × gw_St) := gf_Model_isDial_b0 F z  u t0 x1
set_option maxHeartbeats 4000000 in
set_option maxRecDepth 20000 in
theorem gx_Model_isDial_b24 {p : Program} {l : Launch} {e : Env} {s : State} {m : MethodId} {args : Array Value} {below : List Frame} {meth : Method} {c : Code} {D : va_G} {cA : Nat → ClassId} {hs : Nat → Nat} {z : gw_Sh} (F : Nat) {r0 : (Int32 × gw_St)} (C : gw_Cx p s m args c gb_Model_isDial 2 R_Model D cA) (hr : meth.sig.returnType = (some .boolean)) (hk : meth.locks = false) (u : gw_St) (sx0 : Int32)  {H : Heap} {locs : List Loc} {ls : Array Slot} (hW : gw_Wx D cA hs z s u H locs) (hl : lv_has ls 2 []) (h : gf_Model_isDial_b24 F z   u sx0 = some r0) : gw_Gi p l e gr_Model_isDial s m args below meth c D cA hs z r0 H locs ls 24 [.int sx0] := by
  obtain ⟨hx, hb, hml, hown, hts, hK⟩ := id C
  unfold gf_Model_isDial_b24 at h
  obtain ⟨g1, h⟩ := gf_if_ok h
  obtain rfl := Option.some.inj h
  exact gw_zret C hW hr (Decidable.not_not.mp g1) hk gd_Model_isDial_24

set_option maxHeartbeats 4000000 in
set_option maxRecDepth 20000 in
theorem gx_Model_isDial_b23 {p : Program} {l : Launch} {e : Env} {s : State} {m : MethodId} {args : Array Value} {below : List Frame} {meth : Method} {c : Code} {D : va_G} {cA : Nat → ClassId} {hs : Nat → Nat} {z : gw_Sh} (F : Nat) {r0 : (Int32 × gw_St)} (C : gw_Cx p s m args c gb_Model_isDial 2 R_Model D cA) (hr : meth.sig.returnType = (some .boolean)) (hk : meth.locks = false) (u : gw_St)   {H : Heap} {locs : List Loc} {ls : Array Slot} (hW : gw_Wx D cA hs z s u H locs) (hl : lv_has ls 2 []) (h : gf_Model_isDial_b23 F z   u  = some r0) : gw_Gi p l e gr_Model_isDial s m args below meth c D cA hs z r0 H locs ls 23 [] := by
  obtain ⟨hx, hb, hml, hown, hts, hK⟩ := id C
  unfold gf_Model_isDial_b23 at h
  refine lv_iconst (v := 0) hx hb gd_Model_isDial_23 (by decide) ?_
  exact gx_Model_isDial_b24 F C hr hk  u 0  hW (lv_sub hl [] rfl) h

set_option maxHeartbeats 4000000 in
set_option maxRecDepth 20000 in
theorem gx_Model_isDial_b0 {p : Program} {l : Launch} {e : Env} {s : State} {m : MethodId} {args : Array Value} {below : List Frame} {meth : Method} {c : Code} {D : va_G} {cA : Nat → ClassId} {hs : Nat → Nat} {z : gw_Sh} (F : Nat) {r0 : (Int32 × gw_St)} (C : gw_Cx p s m args c gb_Model_isDial 2 R_Model D cA) (hr : meth.sig.returnType = (some .boolean)) (hk : meth.locks = false) (u : gw_St) (t0 : Nat) (x1 : Int32) (o_t0 : gw_ok z t0 9) {H : Heap} {locs : List Loc} {ls : Array Slot} (hW : gw_Wx D cA hs z s u H locs) (hl : lv_has ls 2 [(0, .ref (hs t0)), (1, .int x1)]) (h : gf_Model_isDial_b0 F z   u t0 x1 = some r0) : gw_Gi p l e gr_Model_isDial s m args below meth c D cA hs z r0 H locs ls 0 [] := by
  obtain ⟨hx, hb, hml, hown, hts, hK⟩ := id C
  unfold gf_Model_isDial_b0 at h
  refine lv_iload_n hx hb gd_Model_isDial_0 rfl (lv_at hl 1 rfl) ?_
  refine lv_iconst (v := 0) hx hb gd_Model_isDial_1 (by decide) ?_
  refine lv_bipush (v := 11) hx hb gd_Model_isDial_2 (by decide) ?_
  obtain ⟨a4, u2, d3, h⟩ := gf_cl_ok h
  refine gw_callSi (As := [.int x1, .int (0 : Int32), .int (11 : Int32)]) (rest := []) C hW (fun _ h => Or.inr h) hl.1 gm_Model_within (gc_Model_within l F  d3 _) gk_398 gk_399 rfl rfl ⟨Nat.le_of_ble_eq_true rfl, Nat.le_of_ble_eq_true rfl⟩ ⟨Nat.zero_le _, Nat.zero_le _⟩ rfl rfl (Nat.le_of_ble_eq_true rfl) gd_Model_isDial_4 (fun H locs hW => ?_)
  refine lv_if_eq (tgt := 23) hx hb gd_Model_isDial_7 (by decide) (fun c5 => ?_) (fun c5 => ?_)
  · have h := gf_t c5 h
    exact gx_Model_isDial_b23 F C hr hk  u2   hW (lv_sub hl [] rfl) h
  · have h := gf_f c5 h
    refine lv_aload_n hx hb gd_Model_isDial_10 rfl (lv_at hl 0 rfl) ?_
    obtain ⟨q6, e7, h⟩ := gf_nn_ok h
    refine gw_getr (k := 26) (ty := 10) (ref := R_Model) C hW o_t0 (by decide) rfl gi_Model rfl (by decide) rfl rfl gk_631 gd_Model_isDial_11 e7 ?_
    have o_q6 := hW.ref (d := 10) o_t0 e7 rfl
    refine lv_iload_n hx hb gd_Model_isDial_14 rfl (lv_at hl 1 rfl) ?_
    obtain ⟨g8, h⟩ := gf_if_ok h
    refine gw_iald C hW o_q6 g8 gd_Model_isDial_15 ?_
    refine lv_if_lt (tgt := 23) hx hb gd_Model_isDial_16 (by decide) (fun c9 => ?_) (fun c9 => ?_)
    · have h := gf_t c9 h
      exact gx_Model_isDial_b23 F C hr hk  u2   hW (lv_sub hl [] rfl) h
    · have h := gf_f c9 h
      refine lv_iconst (v := 1) hx hb gd_Model_isDial_19 (by decide) ?_
      refine lv_goto (tgt := 24) hx hb gd_Model_isDial_20 (by decide) ?_
      exact gx_Model_isDial_b24 F C hr hk  u2 1  hW (lv_sub hl [] rfl) h

set_option maxRecDepth 20000 in
theorem gc_Model_isDial (l : Launch) {D : va_G} {cA : Nat → ClassId} {hs : Nat → Nat} {z : gw_Sh} (F : Nat) {u : gw_St} {r0 : (Int32 × gw_St)} {t0 : Nat} {x1 : Int32} (o_t0 : gw_ok z t0 9) (h : gf_Model_isDial F z u t0 x1 = some r0) (sz : Nat) : gw_Mi l gy_Model_isDial gb_Model_isDial 2 (some .boolean) gr_Model_isDial [.ref (hs t0), .int x1] D cA hs z u sz r0 := by
  refine gw_enter (by decide) (Nat.le_of_ble_eq_true rfl) ?_
  intro p e s m below meth c ls hsz C hW hr hk _ hl
  subst hsz
  exact gx_Model_isDial_b0 F C hr hk u t0 x1 o_t0 hW (lv_sub hl [0, 1] rfl) h
-- GearDeskModel.tell(II)V
theorem gk_635 : Cond.fieldLink R_Model 70 R_Model "resultOver" "[I" ∈ gt_T := gt_m6 (List.mem_of_getElem? (i := 88) rfl) rfl
theorem gk_636 : Cond.fieldLink R_Model 73 R_Model "resultUnder" "[I" ∈ gt_T := gt_m6 (List.mem_of_getElem? (i := 89) rfl) rfl
def gy_Model_tell : MethodName := ⟨R_Model, "tell", "(II)V"⟩
abbrev gb_Model_tell : ByteArray := prog_11_method_71_code
theorem gk_637 : Cond.code gy_Model_tell gb_Model_tell 3 none ∈ gt_T := gt_m7 (List.mem_of_getElem? (i := 234) rfl) rfl
def gr_Model_tell : Room := gw_rm 2 88
theorem gm_Model_tell : gw_Mth gy_Model_tell gb_Model_tell 3 none 2 := ⟨gk_637, gk_377, ⟨by decide +kernel, by decide +kernel⟩, by decide +kernel⟩
theorem gd_Model_tell_0 : decode gb_Model_tell 0 = .ok (.aload_n 0, 1) := by decide +kernel
theorem gd_Model_tell_1 : decode gb_Model_tell 1 = .ok (.aload_n 0, 1) := by decide +kernel
theorem gd_Model_tell_2 : decode gb_Model_tell 2 = .ok (.getfield 70, 3) := by decide +kernel
theorem gd_Model_tell_5 : decode gb_Model_tell 5 = .ok (.iconst 0, 1) := by decide +kernel
theorem gd_Model_tell_6 : decode gb_Model_tell 6 = .ok (.iload_n 1, 1) := by decide +kernel
theorem gd_Model_tell_7 : decode gb_Model_tell 7 = .ok (.invokevirtual 326, 3) := by decide +kernel
theorem gd_Model_tell_10 : decode gb_Model_tell 10 = .ok (.aload_n 0, 1) := by decide +kernel
theorem gd_Model_tell_11 : decode gb_Model_tell 11 = .ok (.aload_n 0, 1) := by decide +kernel
theorem gd_Model_tell_12 : decode gb_Model_tell 12 = .ok (.getfield 73, 3) := by decide +kernel
theorem gd_Model_tell_15 : decode gb_Model_tell 15 = .ok (.iconst 0, 1) := by decide +kernel
theorem gd_Model_tell_16 : decode gb_Model_tell 16 = .ok (.iload_n 2, 1) := by decide +kernel
theorem gd_Model_tell_17 : decode gb_Model_tell 17 = .ok (.invokevirtual 326, 3) := by decide +kernel
theorem gd_Model_tell_20 : decode gb_Model_tell 20 = .ok (.return_, 1) := by decide +kernel
def gf_Model_tell_b0 (F : Nat) (z : gw_Sh)  (u : gw_St) (t0 : Nat) (x1 : Int32) (x2 : Int32) : Option gw_St :=
  gf_nn (u.2.2 t0 36) fun q1 => (gf_Model_store F z u t0 q1 (0 : Int32) x1).bind fun u3 => gf_nn (u3.2.2 t0 37) fun q5 => (gf_Model_store F z u3 t0 q5 (0 : Int32) x2).bind fun u7 => some u7
def gf_Model_tell (F : Nat) (z : gw_Sh) (u : gw_St) (t0 : Nat) (x1 : Int32) (x2 : Int32) : Option gw_St := gf_Model_tell_b0 F z  u t0 x1 x2
set_option maxHeartbeats 4000000 in
set_option maxRecDepth 20000 in
theorem gx_Model_tell_b0 {p : Program} {l : Launch} {e : Env} {s : State} {m : MethodId} {args : Array Value} {below : List Frame} {meth : Method} {c : Code} {D : va_G} {cA : Nat → ClassId} {hs : Nat → Nat} {z : gw_Sh} (F : Nat) {r0 : gw_St} (C : gw_Cx p s m args c gb_Model_tell 3 R_Model D cA) (hr : meth.sig.returnType = none) (hk : meth.locks = false) (u : gw_St) (t0 : Nat) (x1 : Int32) (x2 : Int32) (o_t0 : gw_ok z t0 9) {H : Heap} {locs : List Loc} {ls : Array Slot} (hW : gw_Wx D cA hs z s u H locs) (hl : lv_has ls 3 [(0, .ref (hs t0)), (1, .int x1), (2, .int x2)]) (h : gf_Model_tell_b0 F z   u t0 x1 x2 = some r0) : gw_Gv p l e gr_Model_tell s m args below meth c D cA hs z r0 H locs ls 0 [] := by
  obtain ⟨hx, hb, hml, hown, hts, hK⟩ := id C
  unfold gf_Model_tell_b0 at h
  refine lv_aload_n hx hb gd_Model_tell_0 rfl (lv_at hl 0 rfl) ?_
  refine lv_aload_n hx hb gd_Model_tell_1 rfl (lv_at hl 0 rfl) ?_
  obtain ⟨q1, e2, h⟩ := gf_nn_ok h
  refine gw_getr (k := 36) (ty := 10) (ref := R_Model) C hW o_t0 (by decide) rfl gi_Model rfl (by decide) rfl rfl gk_635 gd_Model_tell_2 e2 ?_
  have o_q1 := hW.ref (d := 10) o_t0 e2 rfl
  refine lv_iconst (v := 0) hx hb gd_Model_tell_5 (by decide) ?_
  refine lv_iload_n hx hb gd_Model_tell_6 rfl (lv_at hl 1 rfl) ?_
  obtain ⟨u3, d4, h⟩ := gf_bd_ok h
  refine gw_callVv (K := R_Model) (As := [.ref (hs q1), .int (0 : Int32), .int x1]) (rest := []) C hW (fun _ h => Or.inr h) hl.1 gm_Model_store (gc_Model_store l F o_t0 o_q1 d4 _) gk_608 gk_609 gk_610 o_t0 (by decide) rfl rfl rfl ⟨Nat.le_of_ble_eq_true rfl, Nat.le_of_ble_eq_true rfl⟩ ⟨Nat.zero_le _, Nat.zero_le _⟩ rfl rfl (Nat.le_of_ble_eq_true rfl) gd_Model_tell_7 (fun H locs hW => ?_)
  refine lv_aload_n hx hb gd_Model_tell_10 rfl (lv_at hl 0 rfl) ?_
  refine lv_aload_n hx hb gd_Model_tell_11 rfl (lv_at hl 0 rfl) ?_
  obtain ⟨q5, e6, h⟩ := gf_nn_ok h
  refine gw_getr (k := 37) (ty := 10) (ref := R_Model) C hW o_t0 (by decide) rfl gi_Model rfl (by decide) rfl rfl gk_636 gd_Model_tell_12 e6 ?_
  have o_q5 := hW.ref (d := 10) o_t0 e6 rfl
  refine lv_iconst (v := 0) hx hb gd_Model_tell_15 (by decide) ?_
  refine lv_iload_n hx hb gd_Model_tell_16 rfl (lv_at hl 2 rfl) ?_
  obtain ⟨u7, d8, h⟩ := gf_bd_ok h
  refine gw_callVv (K := R_Model) (As := [.ref (hs q5), .int (0 : Int32), .int x2]) (rest := []) C hW (fun _ h => Or.inr h) hl.1 gm_Model_store (gc_Model_store l F o_t0 o_q5 d8 _) gk_608 gk_609 gk_610 o_t0 (by decide) rfl rfl rfl ⟨Nat.le_of_ble_eq_true rfl, Nat.le_of_ble_eq_true rfl⟩ ⟨Nat.zero_le _, Nat.zero_le _⟩ rfl rfl (Nat.le_of_ble_eq_true rfl) gd_Model_tell_17 (fun H locs hW => ?_)
  obtain rfl := Option.some.inj h
  exact gw_vret C hW hr hk gd_Model_tell_20

set_option maxRecDepth 20000 in
theorem gc_Model_tell (l : Launch) {D : va_G} {cA : Nat → ClassId} {hs : Nat → Nat} {z : gw_Sh} (F : Nat) {u : gw_St} {r0 : gw_St} {t0 : Nat} {x1 : Int32} {x2 : Int32} (o_t0 : gw_ok z t0 9) (h : gf_Model_tell F z u t0 x1 x2 = some r0) (sz : Nat) : gw_Mv l gy_Model_tell gb_Model_tell 3 none gr_Model_tell [.ref (hs t0), .int x1, .int x2] D cA hs z u sz r0 := by
  refine gw_enter (by decide) (Nat.le_of_ble_eq_true rfl) ?_
  intro p e s m below meth c ls hsz C hW hr hk _ hl
  subst hsz
  exact gx_Model_tell_b0 F C hr hk u t0 x1 x2 o_t0 hW (lv_sub hl [0, 1, 2] rfl) h
-- GearDeskModel.position(III)I
theorem gk_638 : Cond.methodLink R_Model 349 gy_Model_lowest ∈ gt_T := gt_m7 (List.mem_of_getElem? (i := 219) rfl) rfl
theorem gk_639 : Cond.instanceMethod gy_Model_lowest ∈ gt_T := gt_m7 (List.mem_of_getElem? (i := 221) rfl) rfl
theorem gk_640 : Cond.selects R_Model gy_Model_lowest gy_Model_lowest ∈ gt_T := gt_p5 (List.mem_of_getElem? (i := 9) rfl) rfl
theorem gk_641 : Cond.methodLink R_Model 352 gy_Model_tell ∈ gt_T := gt_m7 (List.mem_of_getElem? (i := 231) rfl) rfl
theorem gk_642 : Cond.instanceMethod gy_Model_tell ∈ gt_T := gt_m7 (List.mem_of_getElem? (i := 233) rfl) rfl
theorem gk_643 : Cond.selects R_Model gy_Model_tell gy_Model_tell ∈ gt_T := gt_p5 (List.mem_of_getElem? (i := 12) rfl) rfl
theorem gk_644 : Cond.methodLink R_Model 342 gy_Model_isDial ∈ gt_T := gt_m7 (List.mem_of_getElem? (i := 211) rfl) rfl
theorem gk_645 : Cond.instanceMethod gy_Model_isDial ∈ gt_T := gt_m7 (List.mem_of_getElem? (i := 213) rfl) rfl
theorem gk_646 : Cond.selects R_Model gy_Model_isDial gy_Model_isDial ∈ gt_T := gt_p5 (List.mem_of_getElem? (i := 7) rfl) rfl
theorem gk_647 : Cond.methodLink R_Model 345 gy_Model_load ∈ gt_T := gt_m7 (List.mem_of_getElem? (i := 215) rfl) rfl
theorem gk_648 : Cond.instanceMethod gy_Model_load ∈ gt_T := gt_m7 (List.mem_of_getElem? (i := 217) rfl) rfl
theorem gk_649 : Cond.selects R_Model gy_Model_load gy_Model_load ∈ gt_T := gt_p5 (List.mem_of_getElem? (i := 8) rfl) rfl
def gy_Model_position : MethodName := ⟨R_Model, "position", "(III)I"⟩
abbrev gb_Model_position : ByteArray := prog_11_method_72_code
theorem gk_650 : Cond.code gy_Model_position gb_Model_position 6 (some .int) ∈ gt_T := gt_m7 (List.mem_of_getElem? (i := 210) rfl) rfl
def gr_Model_position : Room := gw_rm 6 184
theorem gm_Model_position : gw_Mth gy_Model_position gb_Model_position 6 (some .int) 3 := ⟨gk_650, gk_377, ⟨by decide +kernel, by decide +kernel⟩, by decide +kernel⟩
theorem gd_Model_position_0 : decode gb_Model_position 0 = .ok (.aload_n 0, 1) := by decide +kernel
theorem gd_Model_position_1 : decode gb_Model_position 1 = .ok (.iconst 0, 1) := by decide +kernel
theorem gd_Model_position_2 : decode gb_Model_position 2 = .ok (.putfield 112, 3) := by decide +kernel
theorem gd_Model_position_5 : decode gb_Model_position 5 = .ok (.aload_n 0, 1) := by decide +kernel
theorem gd_Model_position_6 : decode gb_Model_position 6 = .ok (.iload_n 1, 1) := by decide +kernel
theorem gd_Model_position_7 : decode gb_Model_position 7 = .ok (.invokevirtual 342, 3) := by decide +kernel
theorem gd_Model_position_10 : decode gb_Model_position 10 = .ok (.ifCond .ne 9, 3) := by decide +kernel
theorem gd_Model_position_13 : decode gb_Model_position 13 = .ok (.aload_n 0, 1) := by decide +kernel
theorem gd_Model_position_14 : decode gb_Model_position 14 = .ok (.iconst 1, 1) := by decide +kernel
theorem gd_Model_position_15 : decode gb_Model_position 15 = .ok (.invokevirtual 123, 3) := by decide +kernel
theorem gd_Model_position_18 : decode gb_Model_position 18 = .ok (.ireturn, 1) := by decide +kernel
theorem gd_Model_position_19 : decode gb_Model_position 19 = .ok (.iload_n 3, 1) := by decide +kernel
theorem gd_Model_position_20 : decode gb_Model_position 20 = .ok (.iconst 1, 1) := by decide +kernel
theorem gd_Model_position_21 : decode gb_Model_position 21 = .ok (.if_icmp .ge 9, 3) := by decide +kernel
theorem gd_Model_position_24 : decode gb_Model_position 24 = .ok (.aload_n 0, 1) := by decide +kernel
theorem gd_Model_position_25 : decode gb_Model_position 25 = .ok (.iconst 2, 1) := by decide +kernel
theorem gd_Model_position_26 : decode gb_Model_position 26 = .ok (.invokevirtual 123, 3) := by decide +kernel
theorem gd_Model_position_29 : decode gb_Model_position 29 = .ok (.ireturn, 1) := by decide +kernel
theorem gd_Model_position_30 : decode gb_Model_position 30 = .ok (.aload_n 0, 1) := by decide +kernel
theorem gd_Model_position_31 : decode gb_Model_position 31 = .ok (.getfield 39, 3) := by decide +kernel
theorem gd_Model_position_34 : decode gb_Model_position 34 = .ok (.iload_n 1, 1) := by decide +kernel
theorem gd_Model_position_35 : decode gb_Model_position 35 = .ok (.iaload, 1) := by decide +kernel
theorem gd_Model_position_36 : decode gb_Model_position 36 = .ok (.istore 4, 2) := by decide +kernel
theorem gd_Model_position_38 : decode gb_Model_position 38 = .ok (.aload_n 0, 1) := by decide +kernel
theorem gd_Model_position_39 : decode gb_Model_position 39 = .ok (.getfield 45, 3) := by decide +kernel
theorem gd_Model_position_42 : decode gb_Model_position 42 = .ok (.iload 4, 2) := by decide +kernel
theorem gd_Model_position_44 : decode gb_Model_position 44 = .ok (.baload, 1) := by decide +kernel
theorem gd_Model_position_45 : decode gb_Model_position 45 = .ok (.ifCond .ne 9, 3) := by decide +kernel
theorem gd_Model_position_48 : decode gb_Model_position 48 = .ok (.aload_n 0, 1) := by decide +kernel
theorem gd_Model_position_49 : decode gb_Model_position 49 = .ok (.iconst 3, 1) := by decide +kernel
theorem gd_Model_position_50 : decode gb_Model_position 50 = .ok (.invokevirtual 123, 3) := by decide +kernel
theorem gd_Model_position_53 : decode gb_Model_position 53 = .ok (.ireturn, 1) := by decide +kernel
theorem gd_Model_position_54 : decode gb_Model_position 54 = .ok (.aload_n 0, 1) := by decide +kernel
theorem gd_Model_position_55 : decode gb_Model_position 55 = .ok (.iconst 0, 1) := by decide +kernel
theorem gd_Model_position_56 : decode gb_Model_position 56 = .ok (.aload_n 0, 1) := by decide +kernel
theorem gd_Model_position_57 : decode gb_Model_position 57 = .ok (.getfield 52, 3) := by decide +kernel
theorem gd_Model_position_60 : decode gb_Model_position 60 = .ok (.iload 4, 2) := by decide +kernel
theorem gd_Model_position_62 : decode gb_Model_position 62 = .ok (.invokevirtual 345, 3) := by decide +kernel
theorem gd_Model_position_65 : decode gb_Model_position 65 = .ok (.aload_n 0, 1) := by decide +kernel
theorem gd_Model_position_66 : decode gb_Model_position 66 = .ok (.iconst 1, 1) := by decide +kernel
theorem gd_Model_position_67 : decode gb_Model_position 67 = .ok (.aload_n 0, 1) := by decide +kernel
theorem gd_Model_position_68 : decode gb_Model_position 68 = .ok (.getfield 55, 3) := by decide +kernel
theorem gd_Model_position_71 : decode gb_Model_position 71 = .ok (.iload 4, 2) := by decide +kernel
theorem gd_Model_position_73 : decode gb_Model_position 73 = .ok (.invokevirtual 345, 3) := by decide +kernel
theorem gd_Model_position_76 : decode gb_Model_position 76 = .ok (.aload_n 0, 1) := by decide +kernel
theorem gd_Model_position_77 : decode gb_Model_position 77 = .ok (.iconst 0, 1) := by decide +kernel
theorem gd_Model_position_78 : decode gb_Model_position 78 = .ok (.iload_n 2, 1) := by decide +kernel
theorem gd_Model_position_79 : decode gb_Model_position 79 = .ok (.ifCond .ge 9, 3) := by decide +kernel
theorem gd_Model_position_82 : decode gb_Model_position 82 = .ok (.iload_n 2, 1) := by decide +kernel
theorem gd_Model_position_83 : decode gb_Model_position 83 = .ok (.i2l, 1) := by decide +kernel
theorem gd_Model_position_84 : decode gb_Model_position 84 = .ok (.lneg, 1) := by decide +kernel
theorem gd_Model_position_85 : decode gb_Model_position 85 = .ok (.goto 5, 3) := by decide +kernel
theorem gd_Model_position_88 : decode gb_Model_position 88 = .ok (.iload_n 2, 1) := by decide +kernel
theorem gd_Model_position_89 : decode gb_Model_position 89 = .ok (.i2l, 1) := by decide +kernel
theorem gd_Model_position_90 : decode gb_Model_position 90 = .ok (.invokevirtual 310, 3) := by decide +kernel
theorem gd_Model_position_93 : decode gb_Model_position 93 = .ok (.aload_n 0, 1) := by decide +kernel
theorem gd_Model_position_94 : decode gb_Model_position 94 = .ok (.iconst 1, 1) := by decide +kernel
theorem gd_Model_position_95 : decode gb_Model_position 95 = .ok (.iload_n 3, 1) := by decide +kernel
theorem gd_Model_position_96 : decode gb_Model_position 96 = .ok (.i2l, 1) := by decide +kernel
theorem gd_Model_position_97 : decode gb_Model_position 97 = .ok (.invokevirtual 310, 3) := by decide +kernel
theorem gd_Model_position_100 : decode gb_Model_position 100 = .ok (.aload_n 0, 1) := by decide +kernel
theorem gd_Model_position_101 : decode gb_Model_position 101 = .ok (.iconst 2, 1) := by decide +kernel
theorem gd_Model_position_102 : decode gb_Model_position 102 = .ok (.lconst 0, 1) := by decide +kernel
theorem gd_Model_position_103 : decode gb_Model_position 103 = .ok (.invokevirtual 293, 3) := by decide +kernel
theorem gd_Model_position_106 : decode gb_Model_position 106 = .ok (.aload_n 0, 1) := by decide +kernel
theorem gd_Model_position_107 : decode gb_Model_position 107 = .ok (.iconst 3, 1) := by decide +kernel
theorem gd_Model_position_108 : decode gb_Model_position 108 = .ok (.lconst 1, 1) := by decide +kernel
theorem gd_Model_position_109 : decode gb_Model_position 109 = .ok (.invokevirtual 293, 3) := by decide +kernel
theorem gd_Model_position_112 : decode gb_Model_position 112 = .ok (.aload_n 0, 1) := by decide +kernel
theorem gd_Model_position_113 : decode gb_Model_position 113 = .ok (.iconst 0, 1) := by decide +kernel
theorem gd_Model_position_114 : decode gb_Model_position 114 = .ok (.iconst 1, 1) := by decide +kernel
theorem gd_Model_position_115 : decode gb_Model_position 115 = .ok (.iconst 2, 1) := by decide +kernel
theorem gd_Model_position_116 : decode gb_Model_position 116 = .ok (.iconst 3, 1) := by decide +kernel
theorem gd_Model_position_117 : decode gb_Model_position 117 = .ok (.invokevirtual 296, 3) := by decide +kernel
theorem gd_Model_position_120 : decode gb_Model_position 120 = .ok (.aload_n 0, 1) := by decide +kernel
theorem gd_Model_position_121 : decode gb_Model_position 121 = .ok (.getfield 49, 3) := by decide +kernel
theorem gd_Model_position_124 : decode gb_Model_position 124 = .ok (.iload 4, 2) := by decide +kernel
theorem gd_Model_position_126 : decode gb_Model_position 126 = .ok (.iaload, 1) := by decide +kernel
theorem gd_Model_position_127 : decode gb_Model_position 127 = .ok (.ifCond .ge 7, 3) := by decide +kernel
theorem gd_Model_position_130 : decode gb_Model_position 130 = .ok (.iconst 1, 1) := by decide +kernel
theorem gd_Model_position_131 : decode gb_Model_position 131 = .ok (.goto 4, 3) := by decide +kernel
theorem gd_Model_position_134 : decode gb_Model_position 134 = .ok (.iconst 0, 1) := by decide +kernel
theorem gd_Model_position_135 : decode gb_Model_position 135 = .ok (.iload_n 2, 1) := by decide +kernel
theorem gd_Model_position_136 : decode gb_Model_position 136 = .ok (.ifCond .ge 7, 3) := by decide +kernel
theorem gd_Model_position_139 : decode gb_Model_position 139 = .ok (.iconst 1, 1) := by decide +kernel
theorem gd_Model_position_140 : decode gb_Model_position 140 = .ok (.goto 4, 3) := by decide +kernel
theorem gd_Model_position_143 : decode gb_Model_position 143 = .ok (.iconst 0, 1) := by decide +kernel
theorem gd_Model_position_144 : decode gb_Model_position 144 = .ok (.if_icmp .eq 7, 3) := by decide +kernel
theorem gd_Model_position_147 : decode gb_Model_position 147 = .ok (.iconst 1, 1) := by decide +kernel
theorem gd_Model_position_148 : decode gb_Model_position 148 = .ok (.goto 4, 3) := by decide +kernel
theorem gd_Model_position_151 : decode gb_Model_position 151 = .ok (.iconst 0, 1) := by decide +kernel
theorem gd_Model_position_152 : decode gb_Model_position 152 = .ok (.istore 5, 2) := by decide +kernel
theorem gd_Model_position_154 : decode gb_Model_position 154 = .ok (.iload 5, 2) := by decide +kernel
theorem gd_Model_position_156 : decode gb_Model_position 156 = .ok (.ifCond .eq 30, 3) := by decide +kernel
theorem gd_Model_position_159 : decode gb_Model_position 159 = .ok (.aload_n 0, 1) := by decide +kernel
theorem gd_Model_position_160 : decode gb_Model_position 160 = .ok (.iconst 0, 1) := by decide +kernel
theorem gd_Model_position_161 : decode gb_Model_position 161 = .ok (.invokevirtual 260, 3) := by decide +kernel
theorem gd_Model_position_164 : decode gb_Model_position 164 = .ok (.ifCond .le 22, 3) := by decide +kernel
theorem gd_Model_position_167 : decode gb_Model_position 167 = .ok (.aload_n 0, 1) := by decide +kernel
theorem gd_Model_position_168 : decode gb_Model_position 168 = .ok (.iconst 2, 1) := by decide +kernel
theorem gd_Model_position_169 : decode gb_Model_position 169 = .ok (.iconst 1, 1) := by decide +kernel
theorem gd_Model_position_170 : decode gb_Model_position 170 = .ok (.invokevirtual 277, 3) := by decide +kernel
theorem gd_Model_position_173 : decode gb_Model_position 173 = .ok (.aload_n 0, 1) := by decide +kernel
theorem gd_Model_position_174 : decode gb_Model_position 174 = .ok (.iconst 2, 1) := by decide +kernel
theorem gd_Model_position_175 : decode gb_Model_position 175 = .ok (.iconst 0, 1) := by decide +kernel
theorem gd_Model_position_176 : decode gb_Model_position 176 = .ok (.iconst 1, 1) := by decide +kernel
theorem gd_Model_position_177 : decode gb_Model_position 177 = .ok (.invokevirtual 286, 3) := by decide +kernel
theorem gd_Model_position_180 : decode gb_Model_position 180 = .ok (.aload_n 0, 1) := by decide +kernel
theorem gd_Model_position_181 : decode gb_Model_position 181 = .ok (.iconst 0, 1) := by decide +kernel
theorem gd_Model_position_182 : decode gb_Model_position 182 = .ok (.iconst 2, 1) := by decide +kernel
theorem gd_Model_position_183 : decode gb_Model_position 183 = .ok (.invokevirtual 277, 3) := by decide +kernel
theorem gd_Model_position_186 : decode gb_Model_position 186 = .ok (.aload_n 0, 1) := by decide +kernel
theorem gd_Model_position_187 : decode gb_Model_position 187 = .ok (.iconst 0, 1) := by decide +kernel
theorem gd_Model_position_188 : decode gb_Model_position 188 = .ok (.aload_n 0, 1) := by decide +kernel
theorem gd_Model_position_189 : decode gb_Model_position 189 = .ok (.getfield 42, 3) := by decide +kernel
theorem gd_Model_position_192 : decode gb_Model_position 192 = .ok (.iload_n 1, 1) := by decide +kernel
theorem gd_Model_position_193 : decode gb_Model_position 193 = .ok (.iaload, 1) := by decide +kernel
theorem gd_Model_position_194 : decode gb_Model_position 194 = .ok (.i2l, 1) := by decide +kernel
theorem gd_Model_position_195 : decode gb_Model_position 195 = .ok (.invokevirtual 310, 3) := by decide +kernel
theorem gd_Model_position_198 : decode gb_Model_position 198 = .ok (.aload_n 0, 1) := by decide +kernel
theorem gd_Model_position_199 : decode gb_Model_position 199 = .ok (.iconst 2, 1) := by decide +kernel
theorem gd_Model_position_200 : decode gb_Model_position 200 = .ok (.lconst 0, 1) := by decide +kernel
theorem gd_Model_position_201 : decode gb_Model_position 201 = .ok (.invokevirtual 293, 3) := by decide +kernel
theorem gd_Model_position_204 : decode gb_Model_position 204 = .ok (.aload_n 0, 1) := by decide +kernel
theorem gd_Model_position_205 : decode gb_Model_position 205 = .ok (.iconst 0, 1) := by decide +kernel
theorem gd_Model_position_206 : decode gb_Model_position 206 = .ok (.iconst 1, 1) := by decide +kernel
theorem gd_Model_position_207 : decode gb_Model_position 207 = .ok (.iconst 2, 1) := by decide +kernel
theorem gd_Model_position_208 : decode gb_Model_position 208 = .ok (.iconst 3, 1) := by decide +kernel
theorem gd_Model_position_209 : decode gb_Model_position 209 = .ok (.invokevirtual 296, 3) := by decide +kernel
theorem gd_Model_position_212 : decode gb_Model_position 212 = .ok (.aload_n 0, 1) := by decide +kernel
theorem gd_Model_position_213 : decode gb_Model_position 213 = .ok (.iconst 0, 1) := by decide +kernel
theorem gd_Model_position_214 : decode gb_Model_position 214 = .ok (.iconst 1, 1) := by decide +kernel
theorem gd_Model_position_215 : decode gb_Model_position 215 = .ok (.invokevirtual 349, 3) := by decide +kernel
theorem gd_Model_position_218 : decode gb_Model_position 218 = .ok (.aload_n 0, 1) := by decide +kernel
theorem gd_Model_position_219 : decode gb_Model_position 219 = .ok (.iconst 0, 1) := by decide +kernel
theorem gd_Model_position_220 : decode gb_Model_position 220 = .ok (.invokevirtual 323, 3) := by decide +kernel
theorem gd_Model_position_223 : decode gb_Model_position 223 = .ok (.ifCond .ne 11, 3) := by decide +kernel
theorem gd_Model_position_226 : decode gb_Model_position 226 = .ok (.aload_n 0, 1) := by decide +kernel
theorem gd_Model_position_227 : decode gb_Model_position 227 = .ok (.iconst 1, 1) := by decide +kernel
theorem gd_Model_position_228 : decode gb_Model_position 228 = .ok (.invokevirtual 323, 3) := by decide +kernel
theorem gd_Model_position_231 : decode gb_Model_position 231 = .ok (.ifCond .eq 9, 3) := by decide +kernel
theorem gd_Model_position_234 : decode gb_Model_position 234 = .ok (.aload_n 0, 1) := by decide +kernel
theorem gd_Model_position_235 : decode gb_Model_position 235 = .ok (.iconst 4, 1) := by decide +kernel
theorem gd_Model_position_236 : decode gb_Model_position 236 = .ok (.invokevirtual 123, 3) := by decide +kernel
theorem gd_Model_position_239 : decode gb_Model_position 239 = .ok (.ireturn, 1) := by decide +kernel
theorem gd_Model_position_240 : decode gb_Model_position 240 = .ok (.aload_n 0, 1) := by decide +kernel
theorem gd_Model_position_241 : decode gb_Model_position 241 = .ok (.iconst 0, 1) := by decide +kernel
theorem gd_Model_position_242 : decode gb_Model_position 242 = .ok (.iconst 1, 1) := by decide +kernel
theorem gd_Model_position_243 : decode gb_Model_position 243 = .ok (.invokevirtual 352, 3) := by decide +kernel
theorem gd_Model_position_246 : decode gb_Model_position 246 = .ok (.aload_n 0, 1) := by decide +kernel
theorem gd_Model_position_247 : decode gb_Model_position 247 = .ok (.getfield 104, 3) := by decide +kernel
theorem gd_Model_position_250 : decode gb_Model_position 250 = .ok (.sipush 512, 3) := by decide +kernel
theorem gd_Model_position_253 : decode gb_Model_position 253 = .ok (.laload, 1) := by decide +kernel
theorem gd_Model_position_254 : decode gb_Model_position 254 = .ok (.ldc2_w 272, 3) := by decide +kernel
theorem gd_Model_position_257 : decode gb_Model_position 257 = .ok (.aload_n 0, 1) := by decide +kernel
theorem gd_Model_position_258 : decode gb_Model_position 258 = .ok (.getfield 104, 3) := by decide +kernel
theorem gd_Model_position_261 : decode gb_Model_position 261 = .ok (.sipush 513, 3) := by decide +kernel
theorem gd_Model_position_264 : decode gb_Model_position 264 = .ok (.laload, 1) := by decide +kernel
theorem gd_Model_position_265 : decode gb_Model_position 265 = .ok (.lmul, 1) := by decide +kernel
theorem gd_Model_position_266 : decode gb_Model_position 266 = .ok (.ladd, 1) := by decide +kernel
theorem gd_Model_position_267 : decode gb_Model_position 267 = .ok (.l2i, 1) := by decide +kernel
theorem gd_Model_position_268 : decode gb_Model_position 268 = .ok (.ireturn, 1) := by decide +kernel
def gf_Model_position_b234 (F : Nat) (z : gw_Sh)  (u : gw_St) (t0 : Nat) : Option (Int32 × gw_St) :=
  gf_cl (gf_Model_fail F z u t0 (4 : Int32)) fun a3 u1 => some (a3, u1)
def gf_Model_position_b186 (F : Nat) (z : gw_Sh)  (u : gw_St) (t0 : Nat) (x1 : Int32) : Option (Int32 × gw_St) :=
  gf_nn (u.2.2 t0 27) fun q4 => if (x1 < 0 ∨ z.2.2 q4 ≤ (x1).toNatClampNeg) then none else (gf_Model_timesSmall F z u t0 (0 : Int32) (((u.1 q4 (x1).toNatClampNeg)).toInt64)).bind fun u7 => (gf_Model_setWide F z u7 t0 (2 : Int32) (0 : Int64)).bind fun u9 => (gf_Model_divide F z u9 t0 (0 : Int32) (1 : Int32) (2 : Int32) (3 : Int32)).bind fun u11 => (gf_Model_lowest F z u11 t0 (0 : Int32) (1 : Int32)).bind fun u13 => gf_cl (gf_Model_isLarge F z u13 t0 (0 : Int32)) fun a17 u15 => if a17 = 0 then (gf_cl (gf_Model_isLarge F z u15 t0 (1 : Int32)) fun a21 u19 => if a21 = 0 then ((gf_Model_tell F z u19 t0 (0 : Int32) (1 : Int32)).bind fun u23 => gf_nn (u23.2.2 t0 48) fun q25 => if ((512 : Int32) < 0 ∨ z.2.2 q25 ≤ ((512 : Int32)).toNatClampNeg) then none else gf_nn (u23.2.2 t0 48) fun q28 => if ((513 : Int32) < 0 ∨ z.2.2 q28 ≤ ((513 : Int32)).toNatClampNeg) then none else some (((((u23.2.1 q25 ((512 : Int32)).toNatClampNeg) + ((65536 : Int64) * (u23.2.1 q28 ((513 : Int32)).toNatClampNeg)))).toInt32), u23)) else (gf_Model_position_b234 F z  u19 t0)) else (gf_Model_position_b234 F z  u15 t0)
def gf_Model_position_b152 (F : Nat) (z : gw_Sh)  (u : gw_St) (t0 : Nat) (x1 : Int32) (sx0 : Int32) : Option (Int32 × gw_St) :=
  if sx0 = 0 then (gf_Model_position_b186 F z  u t0 x1) else (gf_cl (gf_Model_size F z u t0 (0 : Int32)) fun a34 u32 => if a34 ≤ 0 then (gf_Model_position_b186 F z  u32 t0 x1) else ((gf_Model_copyWide F z u32 t0 (2 : Int32) (1 : Int32)).bind fun u36 => (gf_Model_addWide F z u36 t0 (2 : Int32) (0 : Int32) (1 : Int32)).bind fun u38 => (gf_Model_copyWide F z u38 t0 (0 : Int32) (2 : Int32)).bind fun u40 => gf_Model_position_b186 F z  u40 t0 x1))
def gf_Model_position_b144 (F : Nat) (z : gw_Sh)  (u : gw_St) (t0 : Nat) (x1 : Int32) (sx0 : Int32) (sx1 : Int32) : Option (Int32 × gw_St) :=
  if sx0 = sx1 then (gf_Model_position_b152 F z  u t0 x1 0) else (gf_Model_position_b152 F z  u t0 x1 1)
def gf_Model_position_b135 (F : Nat) (z : gw_Sh)  (u : gw_St) (t0 : Nat) (x1 : Int32) (x2 : Int32) (sx0 : Int32) : Option (Int32 × gw_St) :=
  if 0 ≤ x2 then (gf_Model_position_b144 F z  u t0 x1 sx0 0) else (gf_Model_position_b144 F z  u t0 x1 sx0 1)
def gf_Model_position_b90 (F : Nat) (z : gw_Sh)  (u : gw_St) (t0 : Nat) (x1 : Int32) (x2 : Int32) (x3 : Int32) (x4 : Int32) (st0 : Nat) (sx1 : Int32) (sy2 : Int64) : Option (Int32 × gw_St) :=
  (gf_Model_timesSmall F z u st0 sx1 sy2).bind fun u44 => (gf_Model_timesSmall F z u44 t0 (1 : Int32) ((x3).toInt64)).bind fun u46 => (gf_Model_setWide F z u46 t0 (2 : Int32) (0 : Int64)).bind fun u48 => (gf_Model_setWide F z u48 t0 (3 : Int32) (1 : Int64)).bind fun u50 => (gf_Model_divide F z u50 t0 (0 : Int32) (1 : Int32) (2 : Int32) (3 : Int32)).bind fun u52 => gf_nn (u52.2.2 t0 29) fun q54 => if (x4 < 0 ∨ z.2.2 q54 ≤ (x4).toNatClampNeg) then none else if 0 ≤ (u52.1 q54 (x4).toNatClampNeg) then (gf_Model_position_b135 F z  u52 t0 x1 x2 0) else (gf_Model_position_b135 F z  u52 t0 x1 x2 1)
def gf_Model_position_b0 (F : Nat) (z : gw_Sh)  (u : gw_St) (t0 : Nat) (x1 : Int32) (x2 : Int32) (x3 : Int32) : Option (Int32 × gw_St) :=
  gf_nm (gw_wi u t0 0 (0 : Int32)) fun u58 => gf_cl (gf_Model_isDial F z u58 t0 x1) fun a62 u60 => if a62 = 0 then (gf_cl (gf_Model_fail F z u60 t0 (1 : Int32)) fun a91 u89 => some (a91, u89)) else (if (1 : Int32) ≤ x3 then (gf_nn (u60.2.2 t0 26) fun q65 => if (x1 < 0 ∨ z.2.2 q65 ≤ (x1).toNatClampNeg) then none else gf_nm (u60.1 q65 (x1).toNatClampNeg) fun a68 => gf_nn (u60.2.2 t0 28) fun q70 => if (a68 < 0 ∨ z.2.2 q70 ≤ (a68).toNatClampNeg) then none else if (u60.1 q70 (a68).toNatClampNeg) = 0 then (gf_cl (gf_Model_fail F z u60 t0 (3 : Int32)) fun a85 u83 => some (a85, u83)) else (gf_nn (u60.2.2 t0 30) fun q74 => (gf_Model_load F z u60 t0 (0 : Int32) q74 a68).bind fun u76 => gf_nn (u76.2.2 t0 31) fun q78 => (gf_Model_load F z u76 t0 (1 : Int32) q78 a68).bind fun u80 => if 0 ≤ x2 then (gf_Model_position_b90 F z  u80 t0 x1 x2 x3 a68 t0 0 ((x2).toInt64)) else (gf_Model_position_b90 F z  u80 t0 x1 x2 x3 a68 t0 0 (-((x2).toInt64))))) else (gf_cl (gf_Model_fail F z u60 t0 (2 : Int32)) fun a88 u86 => some (a88, u86)))
def gf_Model_position (F : Nat) (z : gw_Sh) (u : gw_St) (t0 : Nat) (x1 : Int32) (x2 : Int32) (x3 : Int32) : Option (Int32 × gw_St) := gf_Model_position_b0 F z  u t0 x1 x2 x3
set_option maxHeartbeats 4000000 in
set_option maxRecDepth 20000 in
theorem gx_Model_position_b234 {p : Program} {l : Launch} {e : Env} {s : State} {m : MethodId} {args : Array Value} {below : List Frame} {meth : Method} {c : Code} {D : va_G} {cA : Nat → ClassId} {hs : Nat → Nat} {z : gw_Sh} (F : Nat) {r0 : (Int32 × gw_St)} (C : gw_Cx p s m args c gb_Model_position 6 R_Model D cA) (hr : meth.sig.returnType = (some .int)) (hk : meth.locks = false) (u : gw_St) (t0 : Nat) (o_t0 : gw_ok z t0 9) {H : Heap} {locs : List Loc} {ls : Array Slot} (hW : gw_Wx D cA hs z s u H locs) (hl : lv_has ls 6 [(0, .ref (hs t0))]) (h : gf_Model_position_b234 F z   u t0 = some r0) : gw_Gi p l e gr_Model_position s m args below meth c D cA hs z r0 H locs ls 234 [] := by
  obtain ⟨hx, hb, hml, hown, hts, hK⟩ := id C
  unfold gf_Model_position_b234 at h
  refine lv_aload_n hx hb gd_Model_position_234 rfl (lv_at hl 0 rfl) ?_
  refine lv_iconst (v := 4) hx hb gd_Model_position_235 (by decide) ?_
  obtain ⟨a3, u1, d2, h⟩ := gf_cl_ok h
  refine gw_callVi (K := R_Model) (As := [.int (4 : Int32)]) (rest := []) C hW (fun _ h => Or.inr h) hl.1 gm_Model_fail (gc_Model_fail l F o_t0 d2 _) gk_385 gk_386 gk_387 o_t0 (by decide) rfl rfl rfl ⟨Nat.le_of_ble_eq_true rfl, Nat.le_of_ble_eq_true rfl⟩ ⟨Nat.zero_le _, Nat.zero_le _⟩ rfl rfl (Nat.le_of_ble_eq_true rfl) gd_Model_position_236 (fun H locs hW => ?_)
  obtain rfl := Option.some.inj h
  exact gw_iret C hW hr hk gd_Model_position_239

set_option maxHeartbeats 4000000 in
set_option maxRecDepth 20000 in
theorem gx_Model_position_b186 {p : Program} {l : Launch} {e : Env} {s : State} {m : MethodId} {args : Array Value} {below : List Frame} {meth : Method} {c : Code} {D : va_G} {cA : Nat → ClassId} {hs : Nat → Nat} {z : gw_Sh} (F : Nat) {r0 : (Int32 × gw_St)} (C : gw_Cx p s m args c gb_Model_position 6 R_Model D cA) (hr : meth.sig.returnType = (some .int)) (hk : meth.locks = false) (u : gw_St) (t0 : Nat) (x1 : Int32) (o_t0 : gw_ok z t0 9) {H : Heap} {locs : List Loc} {ls : Array Slot} (hW : gw_Wx D cA hs z s u H locs) (hl : lv_has ls 6 [(0, .ref (hs t0)), (1, .int x1)]) (h : gf_Model_position_b186 F z   u t0 x1 = some r0) : gw_Gi p l e gr_Model_position s m args below meth c D cA hs z r0 H locs ls 186 [] := by
  obtain ⟨hx, hb, hml, hown, hts, hK⟩ := id C
  unfold gf_Model_position_b186 at h
  refine lv_aload_n hx hb gd_Model_position_186 rfl (lv_at hl 0 rfl) ?_
  refine lv_iconst (v := 0) hx hb gd_Model_position_187 (by decide) ?_
  refine lv_aload_n hx hb gd_Model_position_188 rfl (lv_at hl 0 rfl) ?_
  obtain ⟨q4, e5, h⟩ := gf_nn_ok h
  refine gw_getr (k := 27) (ty := 10) (ref := R_Model) C hW o_t0 (by decide) rfl gi_Model rfl (by decide) rfl rfl gk_632 gd_Model_position_189 e5 ?_
  have o_q4 := hW.ref (d := 10) o_t0 e5 rfl
  refine lv_iload_n hx hb gd_Model_position_192 rfl (lv_at hl 1 rfl) ?_
  obtain ⟨g6, h⟩ := gf_if_ok h
  refine gw_iald C hW o_q4 g6 gd_Model_position_193 ?_
  refine lv_i2l hx hb gd_Model_position_194 rfl ?_
  obtain ⟨u7, d8, h⟩ := gf_bd_ok h
  refine gw_callVv (K := R_Model) (As := [.int (0 : Int32), .long (((u.1 q4 (x1).toNatClampNeg)).toInt64)]) (rest := []) C hW (fun _ h => Or.inr h) hl.1 gm_Model_timesSmall (gc_Model_timesSmall l F o_t0 d8 _) gk_589 gk_590 gk_591 o_t0 (by decide) rfl rfl rfl ⟨Nat.le_of_ble_eq_true rfl, Nat.le_of_ble_eq_true rfl⟩ ⟨Nat.zero_le _, Nat.zero_le _⟩ rfl rfl (Nat.le_of_ble_eq_true rfl) gd_Model_position_195 (fun H locs hW => ?_)
  refine lv_aload_n hx hb gd_Model_position_198 rfl (lv_at hl 0 rfl) ?_
  refine lv_iconst (v := 2) hx hb gd_Model_position_199 (by decide) ?_
  refine lv_lconst (v := 0) hx hb gd_Model_position_200 (by decide) ?_
  obtain ⟨u9, d10, h⟩ := gf_bd_ok h
  refine gw_callVv (K := R_Model) (As := [.int (2 : Int32), .long (0 : Int64)]) (rest := []) C hW (fun _ h => Or.inr h) hl.1 gm_Model_setWide (gc_Model_setWide l F o_t0 d10 _) gk_570 gk_571 gk_572 o_t0 (by decide) rfl rfl rfl ⟨Nat.le_of_ble_eq_true rfl, Nat.le_of_ble_eq_true rfl⟩ ⟨Nat.zero_le _, Nat.zero_le _⟩ rfl rfl (Nat.le_of_ble_eq_true rfl) gd_Model_position_201 (fun H locs hW => ?_)
  refine lv_aload_n hx hb gd_Model_position_204 rfl (lv_at hl 0 rfl) ?_
  refine lv_iconst (v := 0) hx hb gd_Model_position_205 (by decide) ?_
  refine lv_iconst (v := 1) hx hb gd_Model_position_206 (by decide) ?_
  refine lv_iconst (v := 2) hx hb gd_Model_position_207 (by decide) ?_
  refine lv_iconst (v := 3) hx hb gd_Model_position_208 (by decide) ?_
  obtain ⟨u11, d12, h⟩ := gf_bd_ok h
  refine gw_callVv (K := R_Model) (As := [.int (0 : Int32), .int (1 : Int32), .int (2 : Int32), .int (3 : Int32)]) (rest := []) C hW (fun _ h => Or.inr h) hl.1 gm_Model_divide (gc_Model_divide l F o_t0 d12 _) gk_573 gk_574 gk_575 o_t0 (by decide) rfl rfl rfl ⟨Nat.le_of_ble_eq_true rfl, Nat.le_of_ble_eq_true rfl⟩ ⟨Nat.zero_le _, Nat.zero_le _⟩ rfl rfl (Nat.le_of_ble_eq_true rfl) gd_Model_position_209 (fun H locs hW => ?_)
  refine lv_aload_n hx hb gd_Model_position_212 rfl (lv_at hl 0 rfl) ?_
  refine lv_iconst (v := 0) hx hb gd_Model_position_213 (by decide) ?_
  refine lv_iconst (v := 1) hx hb gd_Model_position_214 (by decide) ?_
  obtain ⟨u13, d14, h⟩ := gf_bd_ok h
  refine gw_callVv (K := R_Model) (As := [.int (0 : Int32), .int (1 : Int32)]) (rest := []) C hW (fun _ h => Or.inr h) hl.1 gm_Model_lowest (gc_Model_lowest l F o_t0 d14 _) gk_638 gk_639 gk_640 o_t0 (by decide) rfl rfl rfl ⟨Nat.le_of_ble_eq_true rfl, Nat.le_of_ble_eq_true rfl⟩ ⟨Nat.zero_le _, Nat.zero_le _⟩ rfl rfl (Nat.le_of_ble_eq_true rfl) gd_Model_position_215 (fun H locs hW => ?_)
  refine lv_aload_n hx hb gd_Model_position_218 rfl (lv_at hl 0 rfl) ?_
  refine lv_iconst (v := 0) hx hb gd_Model_position_219 (by decide) ?_
  obtain ⟨a17, u15, d16, h⟩ := gf_cl_ok h
  refine gw_callVi (K := R_Model) (As := [.int (0 : Int32)]) (rest := []) C hW (fun _ h => Or.inr h) hl.1 gm_Model_isLarge (gc_Model_isLarge l F o_t0 d16 _) gk_604 gk_605 gk_606 o_t0 (by decide) rfl rfl rfl ⟨Nat.le_of_ble_eq_true rfl, Nat.le_of_ble_eq_true rfl⟩ ⟨Nat.zero_le _, Nat.zero_le _⟩ rfl rfl (Nat.le_of_ble_eq_true rfl) gd_Model_position_220 (fun H locs hW => ?_)
  refine lv_if_ne (tgt := 234) hx hb gd_Model_position_223 (by decide) (fun c18 => ?_) (fun c18 => ?_)
  · have h := gf_f c18 h
    exact gx_Model_position_b234 F C hr hk  u15 t0 o_t0 hW (lv_sub hl [0] rfl) h
  · have h := gf_t c18 h
    refine lv_aload_n hx hb gd_Model_position_226 rfl (lv_at hl 0 rfl) ?_
    refine lv_iconst (v := 1) hx hb gd_Model_position_227 (by decide) ?_
    obtain ⟨a21, u19, d20, h⟩ := gf_cl_ok h
    refine gw_callVi (K := R_Model) (As := [.int (1 : Int32)]) (rest := []) C hW (fun _ h => Or.inr h) hl.1 gm_Model_isLarge (gc_Model_isLarge l F o_t0 d20 _) gk_604 gk_605 gk_606 o_t0 (by decide) rfl rfl rfl ⟨Nat.le_of_ble_eq_true rfl, Nat.le_of_ble_eq_true rfl⟩ ⟨Nat.zero_le _, Nat.zero_le _⟩ rfl rfl (Nat.le_of_ble_eq_true rfl) gd_Model_position_228 (fun H locs hW => ?_)
    refine lv_if_eq (tgt := 240) hx hb gd_Model_position_231 (by decide) (fun c22 => ?_) (fun c22 => ?_)
    · have h := gf_t c22 h
      refine lv_aload_n hx hb gd_Model_position_240 rfl (lv_at hl 0 rfl) ?_
      refine lv_iconst (v := 0) hx hb gd_Model_position_241 (by decide) ?_
      refine lv_iconst (v := 1) hx hb gd_Model_position_242 (by decide) ?_
      obtain ⟨u23, d24, h⟩ := gf_bd_ok h
      refine gw_callVv (K := R_Model) (As := [.int (0 : Int32), .int (1 : Int32)]) (rest := []) C hW (fun _ h => Or.inr h) hl.1 gm_Model_tell (gc_Model_tell l F o_t0 d24 _) gk_641 gk_642 gk_643 o_t0 (by decide) rfl rfl rfl ⟨Nat.le_of_ble_eq_true rfl, Nat.le_of_ble_eq_true rfl⟩ ⟨Nat.zero_le _, Nat.zero_le _⟩ rfl rfl (Nat.le_of_ble_eq_true rfl) gd_Model_position_243 (fun H locs hW => ?_)
      refine lv_aload_n hx hb gd_Model_position_246 rfl (lv_at hl 0 rfl) ?_
      obtain ⟨q25, e26, h⟩ := gf_nn_ok h
      refine gw_getr (k := 48) (ty := 11) (ref := R_Model) C hW o_t0 (by decide) rfl gi_Model rfl (by decide) rfl rfl gk_526 gd_Model_position_247 e26 ?_
      have o_q25 := hW.ref (d := 11) o_t0 e26 rfl
      refine lv_sipush (v := 512) hx hb gd_Model_position_250 (by decide) ?_
      obtain ⟨g27, h⟩ := gf_if_ok h
      refine gw_lald C hW o_q25 g27 gd_Model_position_253 ?_
      refine lv_ldc2 (v := 65536) hx hb hown (hts _ gk_547) gd_Model_position_254 ?_
      refine lv_aload_n hx hb gd_Model_position_257 rfl (lv_at hl 0 rfl) ?_
      obtain ⟨q28, e29, h⟩ := gf_nn_ok h
      refine gw_getr (k := 48) (ty := 11) (ref := R_Model) C hW o_t0 (by decide) rfl gi_Model rfl (by decide) rfl rfl gk_526 gd_Model_position_258 e29 ?_
      have o_q28 := hW.ref (d := 11) o_t0 e29 rfl
      refine lv_sipush (v := 513) hx hb gd_Model_position_261 (by decide) ?_
      obtain ⟨g30, h⟩ := gf_if_ok h
      refine gw_lald C hW o_q28 g30 gd_Model_position_264 ?_
      refine lv_lmul hx hb gd_Model_position_265 ?_
      refine lv_ladd hx hb gd_Model_position_266 ?_
      refine lv_l2i hx hb gd_Model_position_267 rfl ?_
      obtain rfl := Option.some.inj h
      exact gw_iret C hW hr hk gd_Model_position_268
    · have h := gf_f c22 h
      exact gx_Model_position_b234 F C hr hk  u19 t0 o_t0 hW (lv_sub hl [0] rfl) h

set_option maxHeartbeats 4000000 in
set_option maxRecDepth 20000 in
theorem gx_Model_position_b152 {p : Program} {l : Launch} {e : Env} {s : State} {m : MethodId} {args : Array Value} {below : List Frame} {meth : Method} {c : Code} {D : va_G} {cA : Nat → ClassId} {hs : Nat → Nat} {z : gw_Sh} (F : Nat) {r0 : (Int32 × gw_St)} (C : gw_Cx p s m args c gb_Model_position 6 R_Model D cA) (hr : meth.sig.returnType = (some .int)) (hk : meth.locks = false) (u : gw_St) (t0 : Nat) (x1 : Int32) (sx0 : Int32) (o_t0 : gw_ok z t0 9) {H : Heap} {locs : List Loc} {ls : Array Slot} (hW : gw_Wx D cA hs z s u H locs) (hl : lv_has ls 6 [(0, .ref (hs t0)), (1, .int x1)]) (h : gf_Model_position_b152 F z   u t0 x1 sx0 = some r0) : gw_Gi p l e gr_Model_position s m args below meth c D cA hs z r0 H locs ls 152 [.int sx0] := by
  obtain ⟨hx, hb, hml, hown, hts, hK⟩ := id C
  unfold gf_Model_position_b152 at h
  refine lv_istore (lv' := [(5, .int sx0), (0, .ref (hs t0)), (1, .int x1)]) hx hb gd_Model_position_152 hl (by decide) rfl (fun ls hl => ?_)
  refine lv_iload hx hb gd_Model_position_154 (lv_at hl 0 rfl) ?_
  refine lv_if_eq (tgt := 186) hx hb gd_Model_position_156 (by decide) (fun c31 => ?_) (fun c31 => ?_)
  · have h := gf_t c31 h
    exact gx_Model_position_b186 F C hr hk  u t0 x1 o_t0 hW (lv_sub hl [1, 2] rfl) h
  · have h := gf_f c31 h
    refine lv_aload_n hx hb gd_Model_position_159 rfl (lv_at hl 1 rfl) ?_
    refine lv_iconst (v := 0) hx hb gd_Model_position_160 (by decide) ?_
    obtain ⟨a34, u32, d33, h⟩ := gf_cl_ok h
    refine gw_callVi (K := R_Model) (As := [.int (0 : Int32)]) (rest := []) C hW (fun _ h => Or.inr h) hl.1 gm_Model_size (gc_Model_size l F o_t0 d33 _) gk_530 gk_531 gk_532 o_t0 (by decide) rfl rfl rfl ⟨Nat.le_of_ble_eq_true rfl, Nat.le_of_ble_eq_true rfl⟩ ⟨Nat.zero_le _, Nat.zero_le _⟩ rfl rfl (Nat.le_of_ble_eq_true rfl) gd_Model_position_161 (fun H locs hW => ?_)
    refine lv_if_le (tgt := 186) hx hb gd_Model_position_164 (by decide) (fun c35 => ?_) (fun c35 => ?_)
    · have h := gf_t c35 h
      exact gx_Model_position_b186 F C hr hk  u32 t0 x1 o_t0 hW (lv_sub hl [1, 2] rfl) h
    · have h := gf_f c35 h
      refine lv_aload_n hx hb gd_Model_position_167 rfl (lv_at hl 1 rfl) ?_
      refine lv_iconst (v := 2) hx hb gd_Model_position_168 (by decide) ?_
      refine lv_iconst (v := 1) hx hb gd_Model_position_169 (by decide) ?_
      obtain ⟨u36, d37, h⟩ := gf_bd_ok h
      refine gw_callVv (K := R_Model) (As := [.int (2 : Int32), .int (1 : Int32)]) (rest := []) C hW (fun _ h => Or.inr h) hl.1 gm_Model_copyWide (gc_Model_copyWide l F o_t0 d37 _) gk_566 gk_567 gk_568 o_t0 (by decide) rfl rfl rfl ⟨Nat.le_of_ble_eq_true rfl, Nat.le_of_ble_eq_true rfl⟩ ⟨Nat.zero_le _, Nat.zero_le _⟩ rfl rfl (Nat.le_of_ble_eq_true rfl) gd_Model_position_170 (fun H locs hW => ?_)
      refine lv_aload_n hx hb gd_Model_position_173 rfl (lv_at hl 1 rfl) ?_
      refine lv_iconst (v := 2) hx hb gd_Model_position_174 (by decide) ?_
      refine lv_iconst (v := 0) hx hb gd_Model_position_175 (by decide) ?_
      refine lv_iconst (v := 1) hx hb gd_Model_position_176 (by decide) ?_
      obtain ⟨u38, d39, h⟩ := gf_bd_ok h
      refine gw_callVv (K := R_Model) (As := [.int (2 : Int32), .int (0 : Int32), .int (1 : Int32)]) (rest := []) C hW (fun _ h => Or.inr h) hl.1 gm_Model_addWide (gc_Model_addWide l F o_t0 d39 _) gk_557 gk_558 gk_559 o_t0 (by decide) rfl rfl rfl ⟨Nat.le_of_ble_eq_true rfl, Nat.le_of_ble_eq_true rfl⟩ ⟨Nat.zero_le _, Nat.zero_le _⟩ rfl rfl (Nat.le_of_ble_eq_true rfl) gd_Model_position_177 (fun H locs hW => ?_)
      refine lv_aload_n hx hb gd_Model_position_180 rfl (lv_at hl 1 rfl) ?_
      refine lv_iconst (v := 0) hx hb gd_Model_position_181 (by decide) ?_
      refine lv_iconst (v := 2) hx hb gd_Model_position_182 (by decide) ?_
      obtain ⟨u40, d41, h⟩ := gf_bd_ok h
      refine gw_callVv (K := R_Model) (As := [.int (0 : Int32), .int (2 : Int32)]) (rest := []) C hW (fun _ h => Or.inr h) hl.1 gm_Model_copyWide (gc_Model_copyWide l F o_t0 d41 _) gk_566 gk_567 gk_568 o_t0 (by decide) rfl rfl rfl ⟨Nat.le_of_ble_eq_true rfl, Nat.le_of_ble_eq_true rfl⟩ ⟨Nat.zero_le _, Nat.zero_le _⟩ rfl rfl (Nat.le_of_ble_eq_true rfl) gd_Model_position_183 (fun H locs hW => ?_)
      exact gx_Model_position_b186 F C hr hk  u40 t0 x1 o_t0 hW (lv_sub hl [1, 2] rfl) h

set_option maxHeartbeats 4000000 in
set_option maxRecDepth 20000 in
theorem gx_Model_position_b144 {p : Program} {l : Launch} {e : Env} {s : State} {m : MethodId} {args : Array Value} {below : List Frame} {meth : Method} {c : Code} {D : va_G} {cA : Nat → ClassId} {hs : Nat → Nat} {z : gw_Sh} (F : Nat) {r0 : (Int32 × gw_St)} (C : gw_Cx p s m args c gb_Model_position 6 R_Model D cA) (hr : meth.sig.returnType = (some .int)) (hk : meth.locks = false) (u : gw_St) (t0 : Nat) (x1 : Int32) (sx0 : Int32) (sx1 : Int32) (o_t0 : gw_ok z t0 9) {H : Heap} {locs : List Loc} {ls : Array Slot} (hW : gw_Wx D cA hs z s u H locs) (hl : lv_has ls 6 [(0, .ref (hs t0)), (1, .int x1)]) (h : gf_Model_position_b144 F z   u t0 x1 sx0 sx1 = some r0) : gw_Gi p l e gr_Model_position s m args below meth c D cA hs z r0 H locs ls 144 [.int sx1, .int sx0] := by
  obtain ⟨hx, hb, hml, hown, hts, hK⟩ := id C
  unfold gf_Model_position_b144 at h
  refine lv_icmp_eq (tgt := 151) hx hb gd_Model_position_144 (by decide) (fun c42 => ?_) (fun c42 => ?_)
  · have h := gf_t c42 h
    refine lv_iconst (v := 0) hx hb gd_Model_position_151 (by decide) ?_
    exact gx_Model_position_b152 F C hr hk  u t0 x1 0 o_t0 hW (lv_sub hl [0, 1] rfl) h
  · have h := gf_f c42 h
    refine lv_iconst (v := 1) hx hb gd_Model_position_147 (by decide) ?_
    refine lv_goto (tgt := 152) hx hb gd_Model_position_148 (by decide) ?_
    exact gx_Model_position_b152 F C hr hk  u t0 x1 1 o_t0 hW (lv_sub hl [0, 1] rfl) h

set_option maxHeartbeats 4000000 in
set_option maxRecDepth 20000 in
theorem gx_Model_position_b135 {p : Program} {l : Launch} {e : Env} {s : State} {m : MethodId} {args : Array Value} {below : List Frame} {meth : Method} {c : Code} {D : va_G} {cA : Nat → ClassId} {hs : Nat → Nat} {z : gw_Sh} (F : Nat) {r0 : (Int32 × gw_St)} (C : gw_Cx p s m args c gb_Model_position 6 R_Model D cA) (hr : meth.sig.returnType = (some .int)) (hk : meth.locks = false) (u : gw_St) (t0 : Nat) (x1 : Int32) (x2 : Int32) (sx0 : Int32) (o_t0 : gw_ok z t0 9) {H : Heap} {locs : List Loc} {ls : Array Slot} (hW : gw_Wx D cA hs z s u H locs) (hl : lv_has ls 6 [(0, .ref (hs t0)), (1, .int x1), (2, .int x2)]) (h : gf_Model_position_b135 F z   u t0 x1 x2 sx0 = some r0) : gw_Gi p l e gr_Model_position s m args below meth c D cA hs z r0 H locs ls 135 [.int sx0] := by
  obtain ⟨hx, hb, hml, hown, hts, hK⟩ := id C
  unfold gf_Model_position_b135 at h
  refine lv_iload_n hx hb gd_Model_position_135 rfl (lv_at hl 2 rfl) ?_
  refine lv_if_ge (tgt := 143) hx hb gd_Model_position_136 (by decide) (fun c43 => ?_) (fun c43 => ?_)
  · have h := gf_t c43 h
    refine lv_iconst (v := 0) hx hb gd_Model_position_143 (by decide) ?_
    exact gx_Model_position_b144 F C hr hk  u t0 x1 sx0 0 o_t0 hW (lv_sub hl [0, 1] rfl) h
  · have h := gf_f c43 h
    refine lv_iconst (v := 1) hx hb gd_Model_position_139 (by decide) ?_
    refine lv_goto (tgt := 144) hx hb gd_Model_position_140 (by decide) ?_
    exact gx_Model_position_b144 F C hr hk  u t0 x1 sx0 1 o_t0 hW (lv_sub hl [0, 1] rfl) h

set_option maxHeartbeats 4000000 in
set_option maxRecDepth 20000 in
theorem gx_Model_position_b90 {p : Program} {l : Launch} {e : Env} {s : State} {m : MethodId} {args : Array Value} {below : List Frame} {meth : Method} {c : Code} {D : va_G} {cA : Nat → ClassId} {hs : Nat → Nat} {z : gw_Sh} (F : Nat) {r0 : (Int32 × gw_St)} (C : gw_Cx p s m args c gb_Model_position 6 R_Model D cA) (hr : meth.sig.returnType = (some .int)) (hk : meth.locks = false) (u : gw_St) (t0 : Nat) (x1 : Int32) (x2 : Int32) (x3 : Int32) (x4 : Int32) (st0 : Nat) (sx1 : Int32) (sy2 : Int64) (o_t0 : gw_ok z t0 9) (o_st0 : gw_ok z st0 9) {H : Heap} {locs : List Loc} {ls : Array Slot} (hW : gw_Wx D cA hs z s u H locs) (hl : lv_has ls 6 [(0, .ref (hs t0)), (1, .int x1), (2, .int x2), (3, .int x3), (4, .int x4)]) (h : gf_Model_position_b90 F z   u t0 x1 x2 x3 x4 st0 sx1 sy2 = some r0) : gw_Gi p l e gr_Model_position s m args below meth c D cA hs z r0 H locs ls 90 [.long sy2, .int sx1, .ref (hs st0)] := by
  obtain ⟨hx, hb, hml, hown, hts, hK⟩ := id C
  unfold gf_Model_position_b90 at h
  obtain ⟨u44, d45, h⟩ := gf_bd_ok h
  refine gw_callVv (K := R_Model) (As := [.int sx1, .long sy2]) (rest := []) C hW (fun _ h => Or.inr h) hl.1 gm_Model_timesSmall (gc_Model_timesSmall l F o_st0 d45 _) gk_589 gk_590 gk_591 o_st0 (by decide) rfl rfl rfl ⟨Nat.le_of_ble_eq_true rfl, Nat.le_of_ble_eq_true rfl⟩ ⟨Nat.zero_le _, Nat.zero_le _⟩ rfl rfl (Nat.le_of_ble_eq_true rfl) gd_Model_position_90 (fun H locs hW => ?_)
  refine lv_aload_n hx hb gd_Model_position_93 rfl (lv_at hl 0 rfl) ?_
  refine lv_iconst (v := 1) hx hb gd_Model_position_94 (by decide) ?_
  refine lv_iload_n hx hb gd_Model_position_95 rfl (lv_at hl 3 rfl) ?_
  refine lv_i2l hx hb gd_Model_position_96 rfl ?_
  obtain ⟨u46, d47, h⟩ := gf_bd_ok h
  refine gw_callVv (K := R_Model) (As := [.int (1 : Int32), .long ((x3).toInt64)]) (rest := []) C hW (fun _ h => Or.inr h) hl.1 gm_Model_timesSmall (gc_Model_timesSmall l F o_t0 d47 _) gk_589 gk_590 gk_591 o_t0 (by decide) rfl rfl rfl ⟨Nat.le_of_ble_eq_true rfl, Nat.le_of_ble_eq_true rfl⟩ ⟨Nat.zero_le _, Nat.zero_le _⟩ rfl rfl (Nat.le_of_ble_eq_true rfl) gd_Model_position_97 (fun H locs hW => ?_)
  refine lv_aload_n hx hb gd_Model_position_100 rfl (lv_at hl 0 rfl) ?_
  refine lv_iconst (v := 2) hx hb gd_Model_position_101 (by decide) ?_
  refine lv_lconst (v := 0) hx hb gd_Model_position_102 (by decide) ?_
  obtain ⟨u48, d49, h⟩ := gf_bd_ok h
  refine gw_callVv (K := R_Model) (As := [.int (2 : Int32), .long (0 : Int64)]) (rest := []) C hW (fun _ h => Or.inr h) hl.1 gm_Model_setWide (gc_Model_setWide l F o_t0 d49 _) gk_570 gk_571 gk_572 o_t0 (by decide) rfl rfl rfl ⟨Nat.le_of_ble_eq_true rfl, Nat.le_of_ble_eq_true rfl⟩ ⟨Nat.zero_le _, Nat.zero_le _⟩ rfl rfl (Nat.le_of_ble_eq_true rfl) gd_Model_position_103 (fun H locs hW => ?_)
  refine lv_aload_n hx hb gd_Model_position_106 rfl (lv_at hl 0 rfl) ?_
  refine lv_iconst (v := 3) hx hb gd_Model_position_107 (by decide) ?_
  refine lv_lconst (v := 1) hx hb gd_Model_position_108 (by decide) ?_
  obtain ⟨u50, d51, h⟩ := gf_bd_ok h
  refine gw_callVv (K := R_Model) (As := [.int (3 : Int32), .long (1 : Int64)]) (rest := []) C hW (fun _ h => Or.inr h) hl.1 gm_Model_setWide (gc_Model_setWide l F o_t0 d51 _) gk_570 gk_571 gk_572 o_t0 (by decide) rfl rfl rfl ⟨Nat.le_of_ble_eq_true rfl, Nat.le_of_ble_eq_true rfl⟩ ⟨Nat.zero_le _, Nat.zero_le _⟩ rfl rfl (Nat.le_of_ble_eq_true rfl) gd_Model_position_109 (fun H locs hW => ?_)
  refine lv_aload_n hx hb gd_Model_position_112 rfl (lv_at hl 0 rfl) ?_
  refine lv_iconst (v := 0) hx hb gd_Model_position_113 (by decide) ?_
  refine lv_iconst (v := 1) hx hb gd_Model_position_114 (by decide) ?_
  refine lv_iconst (v := 2) hx hb gd_Model_position_115 (by decide) ?_
  refine lv_iconst (v := 3) hx hb gd_Model_position_116 (by decide) ?_
  obtain ⟨u52, d53, h⟩ := gf_bd_ok h
  refine gw_callVv (K := R_Model) (As := [.int (0 : Int32), .int (1 : Int32), .int (2 : Int32), .int (3 : Int32)]) (rest := []) C hW (fun _ h => Or.inr h) hl.1 gm_Model_divide (gc_Model_divide l F o_t0 d53 _) gk_573 gk_574 gk_575 o_t0 (by decide) rfl rfl rfl ⟨Nat.le_of_ble_eq_true rfl, Nat.le_of_ble_eq_true rfl⟩ ⟨Nat.zero_le _, Nat.zero_le _⟩ rfl rfl (Nat.le_of_ble_eq_true rfl) gd_Model_position_117 (fun H locs hW => ?_)
  refine lv_aload_n hx hb gd_Model_position_120 rfl (lv_at hl 0 rfl) ?_
  obtain ⟨q54, e55, h⟩ := gf_nn_ok h
  refine gw_getr (k := 29) (ty := 10) (ref := R_Model) C hW o_t0 (by decide) rfl gi_Model rfl (by decide) rfl rfl gk_618 gd_Model_position_121 e55 ?_
  have o_q54 := hW.ref (d := 10) o_t0 e55 rfl
  refine lv_iload hx hb gd_Model_position_124 (lv_at hl 4 rfl) ?_
  obtain ⟨g56, h⟩ := gf_if_ok h
  refine gw_iald C hW o_q54 g56 gd_Model_position_126 ?_
  refine lv_if_ge (tgt := 134) hx hb gd_Model_position_127 (by decide) (fun c57 => ?_) (fun c57 => ?_)
  · have h := gf_t c57 h
    refine lv_iconst (v := 0) hx hb gd_Model_position_134 (by decide) ?_
    exact gx_Model_position_b135 F C hr hk  u52 t0 x1 x2 0 o_t0 hW (lv_sub hl [0, 1, 2] rfl) h
  · have h := gf_f c57 h
    refine lv_iconst (v := 1) hx hb gd_Model_position_130 (by decide) ?_
    refine lv_goto (tgt := 135) hx hb gd_Model_position_131 (by decide) ?_
    exact gx_Model_position_b135 F C hr hk  u52 t0 x1 x2 1 o_t0 hW (lv_sub hl [0, 1, 2] rfl) h

set_option maxHeartbeats 4000000 in
set_option maxRecDepth 20000 in
theorem gx_Model_position_b0 {p : Program} {l : Launch} {e : Env} {s : State} {m : MethodId} {args : Array Value} {below : List Frame} {meth : Method} {c : Code} {D : va_G} {cA : Nat → ClassId} {hs : Nat → Nat} {z : gw_Sh} (F : Nat) {r0 : (Int32 × gw_St)} (C : gw_Cx p s m args c gb_Model_position 6 R_Model D cA) (hr : meth.sig.returnType = (some .int)) (hk : meth.locks = false) (u : gw_St) (t0 : Nat) (x1 : Int32) (x2 : Int32) (x3 : Int32) (o_t0 : gw_ok z t0 9) {H : Heap} {locs : List Loc} {ls : Array Slot} (hW : gw_Wx D cA hs z s u H locs) (hl : lv_has ls 6 [(0, .ref (hs t0)), (1, .int x1), (2, .int x2), (3, .int x3)]) (h : gf_Model_position_b0 F z   u t0 x1 x2 x3 = some r0) : gw_Gi p l e gr_Model_position s m args below meth c D cA hs z r0 H locs ls 0 [] := by
  obtain ⟨hx, hb, hml, hown, hts, hK⟩ := id C
  unfold gf_Model_position_b0 at h
  refine lv_aload_n hx hb gd_Model_position_0 rfl (lv_at hl 0 rfl) ?_
  refine lv_iconst (v := 0) hx hb gd_Model_position_1 (by decide) ?_
  refine gw_puti (k := 0) (ref := R_Model) (fty := .int) C hW o_t0 (by decide) rfl gi_Model rfl (by decide) rfl rfl gk_376 tf_Model tf_Model_ok nm_Model rfl rfl rfl rfl gd_Model_position_2 (fun u58 H locs e59 hW => ?_)
  have h := gf_nm_ok e59 h
  refine lv_aload_n hx hb gd_Model_position_5 rfl (lv_at hl 0 rfl) ?_
  refine lv_iload_n hx hb gd_Model_position_6 rfl (lv_at hl 1 rfl) ?_
  obtain ⟨a62, u60, d61, h⟩ := gf_cl_ok h
  refine gw_callVi (K := R_Model) (As := [.int x1]) (rest := []) C hW (fun _ h => Or.inr h) hl.1 gm_Model_isDial (gc_Model_isDial l F o_t0 d61 _) gk_644 gk_645 gk_646 o_t0 (by decide) rfl rfl rfl ⟨Nat.le_of_ble_eq_true rfl, Nat.le_of_ble_eq_true rfl⟩ ⟨Nat.zero_le _, Nat.zero_le _⟩ rfl rfl (Nat.le_of_ble_eq_true rfl) gd_Model_position_7 (fun H locs hW => ?_)
  refine lv_if_ne (tgt := 19) hx hb gd_Model_position_10 (by decide) (fun c63 => ?_) (fun c63 => ?_)
  · have h := gf_f c63 h
    refine lv_iload_n hx hb gd_Model_position_19 rfl (lv_at hl 3 rfl) ?_
    refine lv_iconst (v := 1) hx hb gd_Model_position_20 (by decide) ?_
    refine lv_icmp_ge (tgt := 30) hx hb gd_Model_position_21 (by decide) (fun c64 => ?_) (fun c64 => ?_)
    · have h := gf_t c64 h
      refine lv_aload_n hx hb gd_Model_position_30 rfl (lv_at hl 0 rfl) ?_
      obtain ⟨q65, e66, h⟩ := gf_nn_ok h
      refine gw_getr (k := 26) (ty := 10) (ref := R_Model) C hW o_t0 (by decide) rfl gi_Model rfl (by decide) rfl rfl gk_631 gd_Model_position_31 e66 ?_
      have o_q65 := hW.ref (d := 10) o_t0 e66 rfl
      refine lv_iload_n hx hb gd_Model_position_34 rfl (lv_at hl 1 rfl) ?_
      obtain ⟨g67, h⟩ := gf_if_ok h
      refine gw_iald C hW o_q65 g67 gd_Model_position_35 ?_
      refine lv_topi (fun a68 e69 => ?_)
      have h := gf_nm_ok e69 h
      refine lv_istore (lv' := [(4, .int a68), (0, .ref (hs t0)), (1, .int x1), (2, .int x2), (3, .int x3)]) hx hb gd_Model_position_36 hl (by decide) rfl (fun ls hl => ?_)
      refine lv_aload_n hx hb gd_Model_position_38 rfl (lv_at hl 1 rfl) ?_
      obtain ⟨q70, e71, h⟩ := gf_nn_ok h
      refine gw_getr (k := 28) (ty := 12) (ref := R_Model) C hW o_t0 (by decide) rfl gi_Model rfl (by decide) rfl rfl gk_463 gd_Model_position_39 e71 ?_
      have o_q70 := hW.ref (d := 12) o_t0 e71 rfl
      refine lv_iload hx hb gd_Model_position_42 (lv_at hl 0 rfl) ?_
      obtain ⟨g72, h⟩ := gf_if_ok h
      refine gw_zald C hW o_q70 g72 gd_Model_position_44 ?_
      refine lv_if_ne (tgt := 54) hx hb gd_Model_position_45 (by decide) (fun c73 => ?_) (fun c73 => ?_)
      · have h := gf_f c73 h
        refine lv_aload_n hx hb gd_Model_position_54 rfl (lv_at hl 1 rfl) ?_
        refine lv_iconst (v := 0) hx hb gd_Model_position_55 (by decide) ?_
        refine lv_aload_n hx hb gd_Model_position_56 rfl (lv_at hl 1 rfl) ?_
        obtain ⟨q74, e75, h⟩ := gf_nn_ok h
        refine gw_getr (k := 30) (ty := 10) (ref := R_Model) C hW o_t0 (by decide) rfl gi_Model rfl (by decide) rfl rfl gk_616 gd_Model_position_57 e75 ?_
        have o_q74 := hW.ref (d := 10) o_t0 e75 rfl
        refine lv_iload hx hb gd_Model_position_60 (lv_at hl 0 rfl) ?_
        obtain ⟨u76, d77, h⟩ := gf_bd_ok h
        refine gw_callVv (K := R_Model) (As := [.int (0 : Int32), .ref (hs q74), .int a68]) (rest := []) C hW (fun _ h => Or.inr h) hl.1 gm_Model_load (gc_Model_load l F o_t0 o_q74 d77 _) gk_647 gk_648 gk_649 o_t0 (by decide) rfl rfl rfl ⟨Nat.le_of_ble_eq_true rfl, Nat.le_of_ble_eq_true rfl⟩ ⟨Nat.zero_le _, Nat.zero_le _⟩ rfl rfl (Nat.le_of_ble_eq_true rfl) gd_Model_position_62 (fun H locs hW => ?_)
        refine lv_aload_n hx hb gd_Model_position_65 rfl (lv_at hl 1 rfl) ?_
        refine lv_iconst (v := 1) hx hb gd_Model_position_66 (by decide) ?_
        refine lv_aload_n hx hb gd_Model_position_67 rfl (lv_at hl 1 rfl) ?_
        obtain ⟨q78, e79, h⟩ := gf_nn_ok h
        refine gw_getr (k := 31) (ty := 10) (ref := R_Model) C hW o_t0 (by decide) rfl gi_Model rfl (by decide) rfl rfl gk_617 gd_Model_position_68 e79 ?_
        have o_q78 := hW.ref (d := 10) o_t0 e79 rfl
        refine lv_iload hx hb gd_Model_position_71 (lv_at hl 0 rfl) ?_
        obtain ⟨u80, d81, h⟩ := gf_bd_ok h
        refine gw_callVv (K := R_Model) (As := [.int (1 : Int32), .ref (hs q78), .int a68]) (rest := []) C hW (fun _ h => Or.inr h) hl.1 gm_Model_load (gc_Model_load l F o_t0 o_q78 d81 _) gk_647 gk_648 gk_649 o_t0 (by decide) rfl rfl rfl ⟨Nat.le_of_ble_eq_true rfl, Nat.le_of_ble_eq_true rfl⟩ ⟨Nat.zero_le _, Nat.zero_le _⟩ rfl rfl (Nat.le_of_ble_eq_true rfl) gd_Model_position_73 (fun H locs hW => ?_)
        refine lv_aload_n hx hb gd_Model_position_76 rfl (lv_at hl 1 rfl) ?_
        refine lv_iconst (v := 0) hx hb gd_Model_position_77 (by decide) ?_
        refine lv_iload_n hx hb gd_Model_position_78 rfl (lv_at hl 3 rfl) ?_
        refine lv_if_ge (tgt := 88) hx hb gd_Model_position_79 (by decide) (fun c82 => ?_) (fun c82 => ?_)
        · have h := gf_t c82 h
          refine lv_iload_n hx hb gd_Model_position_88 rfl (lv_at hl 3 rfl) ?_
          refine lv_i2l hx hb gd_Model_position_89 rfl ?_
          exact gx_Model_position_b90 F C hr hk  u80 t0 x1 x2 x3 a68 t0 0 ((x2).toInt64) o_t0 o_t0 hW (lv_sub hl [1, 2, 3, 4, 0] rfl) h
        · have h := gf_f c82 h
          refine lv_iload_n hx hb gd_Model_position_82 rfl (lv_at hl 3 rfl) ?_
          refine lv_i2l hx hb gd_Model_position_83 rfl ?_
          refine lv_lneg hx hb gd_Model_position_84 ?_
          refine lv_goto (tgt := 90) hx hb gd_Model_position_85 (by decide) ?_
          exact gx_Model_position_b90 F C hr hk  u80 t0 x1 x2 x3 a68 t0 0 (-((x2).toInt64)) o_t0 o_t0 hW (lv_sub hl [1, 2, 3, 4, 0] rfl) h
      · have h := gf_t c73 h
        refine lv_aload_n hx hb gd_Model_position_48 rfl (lv_at hl 1 rfl) ?_
        refine lv_iconst (v := 3) hx hb gd_Model_position_49 (by decide) ?_
        obtain ⟨a85, u83, d84, h⟩ := gf_cl_ok h
        refine gw_callVi (K := R_Model) (As := [.int (3 : Int32)]) (rest := []) C hW (fun _ h => Or.inr h) hl.1 gm_Model_fail (gc_Model_fail l F o_t0 d84 _) gk_385 gk_386 gk_387 o_t0 (by decide) rfl rfl rfl ⟨Nat.le_of_ble_eq_true rfl, Nat.le_of_ble_eq_true rfl⟩ ⟨Nat.zero_le _, Nat.zero_le _⟩ rfl rfl (Nat.le_of_ble_eq_true rfl) gd_Model_position_50 (fun H locs hW => ?_)
        obtain rfl := Option.some.inj h
        exact gw_iret C hW hr hk gd_Model_position_53
    · have h := gf_f c64 h
      refine lv_aload_n hx hb gd_Model_position_24 rfl (lv_at hl 0 rfl) ?_
      refine lv_iconst (v := 2) hx hb gd_Model_position_25 (by decide) ?_
      obtain ⟨a88, u86, d87, h⟩ := gf_cl_ok h
      refine gw_callVi (K := R_Model) (As := [.int (2 : Int32)]) (rest := []) C hW (fun _ h => Or.inr h) hl.1 gm_Model_fail (gc_Model_fail l F o_t0 d87 _) gk_385 gk_386 gk_387 o_t0 (by decide) rfl rfl rfl ⟨Nat.le_of_ble_eq_true rfl, Nat.le_of_ble_eq_true rfl⟩ ⟨Nat.zero_le _, Nat.zero_le _⟩ rfl rfl (Nat.le_of_ble_eq_true rfl) gd_Model_position_26 (fun H locs hW => ?_)
      obtain rfl := Option.some.inj h
      exact gw_iret C hW hr hk gd_Model_position_29
  · have h := gf_t c63 h
    refine lv_aload_n hx hb gd_Model_position_13 rfl (lv_at hl 0 rfl) ?_
    refine lv_iconst (v := 1) hx hb gd_Model_position_14 (by decide) ?_
    obtain ⟨a91, u89, d90, h⟩ := gf_cl_ok h
    refine gw_callVi (K := R_Model) (As := [.int (1 : Int32)]) (rest := []) C hW (fun _ h => Or.inr h) hl.1 gm_Model_fail (gc_Model_fail l F o_t0 d90 _) gk_385 gk_386 gk_387 o_t0 (by decide) rfl rfl rfl ⟨Nat.le_of_ble_eq_true rfl, Nat.le_of_ble_eq_true rfl⟩ ⟨Nat.zero_le _, Nat.zero_le _⟩ rfl rfl (Nat.le_of_ble_eq_true rfl) gd_Model_position_15 (fun H locs hW => ?_)
    obtain rfl := Option.some.inj h
    exact gw_iret C hW hr hk gd_Model_position_18

set_option maxRecDepth 20000 in
theorem gc_Model_position (l : Launch) {D : va_G} {cA : Nat → ClassId} {hs : Nat → Nat} {z : gw_Sh} (F : Nat) {u : gw_St} {r0 : (Int32 × gw_St)} {t0 : Nat} {x1 : Int32} {x2 : Int32} {x3 : Int32} (o_t0 : gw_ok z t0 9) (h : gf_Model_position F z u t0 x1 x2 x3 = some r0) (sz : Nat) : gw_Mi l gy_Model_position gb_Model_position 6 (some .int) gr_Model_position [.ref (hs t0), .int x1, .int x2, .int x3] D cA hs z u sz r0 := by
  refine gw_enter (by decide) (Nat.le_of_ble_eq_true rfl) ?_
  intro p e s m below meth c ls hsz C hW hr hk _ hl
  subst hsz
  exact gx_Model_position_b0 F C hr hk u t0 x1 x2 x3 o_t0 hW (lv_sub hl [0, 1, 2, 3] rfl) h
-- GearDeskModel.meet(II)Z
theorem gk_651 : Cond.methodLink R_Model 355 gy_Model_multiply ∈ gt_T := gt_m7 (List.mem_of_getElem? (i := 239) rfl) rfl
theorem gk_652 : Cond.instanceMethod gy_Model_multiply ∈ gt_T := gt_m8 (List.mem_of_getElem? (i := 1) rfl) rfl
theorem gk_653 : Cond.selects R_Model gy_Model_multiply gy_Model_multiply ∈ gt_T := gt_p5 (List.mem_of_getElem? (i := 13) rfl) rfl
def gy_Model_meet : MethodName := ⟨R_Model, "meet", "(II)Z"⟩
abbrev gb_Model_meet : ByteArray := prog_11_method_73_code
theorem gk_654 : Cond.code gy_Model_meet gb_Model_meet 5 (some .boolean) ∈ gt_T := gt_m7 (List.mem_of_getElem? (i := 238) rfl) rfl
def gr_Model_meet : Room := gw_rm 6 184
theorem gm_Model_meet : gw_Mth gy_Model_meet gb_Model_meet 5 (some .boolean) 2 := ⟨gk_654, gk_377, ⟨by decide +kernel, by decide +kernel⟩, by decide +kernel⟩
theorem gd_Model_meet_0 : decode gb_Model_meet 0 = .ok (.aload_n 0, 1) := by decide +kernel
theorem gd_Model_meet_1 : decode gb_Model_meet 1 = .ok (.iconst 0, 1) := by decide +kernel
theorem gd_Model_meet_2 : decode gb_Model_meet 2 = .ok (.putfield 112, 3) := by decide +kernel
theorem gd_Model_meet_5 : decode gb_Model_meet 5 = .ok (.aload_n 0, 1) := by decide +kernel
theorem gd_Model_meet_6 : decode gb_Model_meet 6 = .ok (.iload_n 1, 1) := by decide +kernel
theorem gd_Model_meet_7 : decode gb_Model_meet 7 = .ok (.invokevirtual 342, 3) := by decide +kernel
theorem gd_Model_meet_10 : decode gb_Model_meet 10 = .ok (.ifCond .eq 11, 3) := by decide +kernel
theorem gd_Model_meet_13 : decode gb_Model_meet 13 = .ok (.aload_n 0, 1) := by decide +kernel
theorem gd_Model_meet_14 : decode gb_Model_meet 14 = .ok (.iload_n 2, 1) := by decide +kernel
theorem gd_Model_meet_15 : decode gb_Model_meet 15 = .ok (.invokevirtual 342, 3) := by decide +kernel
theorem gd_Model_meet_18 : decode gb_Model_meet 18 = .ok (.ifCond .ne 17, 3) := by decide +kernel
theorem gd_Model_meet_21 : decode gb_Model_meet 21 = .ok (.aload_n 0, 1) := by decide +kernel
theorem gd_Model_meet_22 : decode gb_Model_meet 22 = .ok (.iconst 1, 1) := by decide +kernel
theorem gd_Model_meet_23 : decode gb_Model_meet 23 = .ok (.invokevirtual 123, 3) := by decide +kernel
theorem gd_Model_meet_26 : decode gb_Model_meet 26 = .ok (.ifCond .le 7, 3) := by decide +kernel
theorem gd_Model_meet_29 : decode gb_Model_meet 29 = .ok (.iconst 1, 1) := by decide +kernel
theorem gd_Model_meet_30 : decode gb_Model_meet 30 = .ok (.goto 4, 3) := by decide +kernel
theorem gd_Model_meet_33 : decode gb_Model_meet 33 = .ok (.iconst 0, 1) := by decide +kernel
theorem gd_Model_meet_34 : decode gb_Model_meet 34 = .ok (.ireturn, 1) := by decide +kernel
theorem gd_Model_meet_35 : decode gb_Model_meet 35 = .ok (.aload_n 0, 1) := by decide +kernel
theorem gd_Model_meet_36 : decode gb_Model_meet 36 = .ok (.getfield 39, 3) := by decide +kernel
theorem gd_Model_meet_39 : decode gb_Model_meet 39 = .ok (.iload_n 1, 1) := by decide +kernel
theorem gd_Model_meet_40 : decode gb_Model_meet 40 = .ok (.iaload, 1) := by decide +kernel
theorem gd_Model_meet_41 : decode gb_Model_meet 41 = .ok (.istore_n 3, 1) := by decide +kernel
theorem gd_Model_meet_42 : decode gb_Model_meet 42 = .ok (.aload_n 0, 1) := by decide +kernel
theorem gd_Model_meet_43 : decode gb_Model_meet 43 = .ok (.getfield 39, 3) := by decide +kernel
theorem gd_Model_meet_46 : decode gb_Model_meet 46 = .ok (.iload_n 2, 1) := by decide +kernel
theorem gd_Model_meet_47 : decode gb_Model_meet 47 = .ok (.iaload, 1) := by decide +kernel
theorem gd_Model_meet_48 : decode gb_Model_meet 48 = .ok (.istore 4, 2) := by decide +kernel
theorem gd_Model_meet_50 : decode gb_Model_meet 50 = .ok (.aload_n 0, 1) := by decide +kernel
theorem gd_Model_meet_51 : decode gb_Model_meet 51 = .ok (.getfield 45, 3) := by decide +kernel
theorem gd_Model_meet_54 : decode gb_Model_meet 54 = .ok (.iload_n 3, 1) := by decide +kernel
theorem gd_Model_meet_55 : decode gb_Model_meet 55 = .ok (.baload, 1) := by decide +kernel
theorem gd_Model_meet_56 : decode gb_Model_meet 56 = .ok (.ifCond .eq 13, 3) := by decide +kernel
theorem gd_Model_meet_59 : decode gb_Model_meet 59 = .ok (.aload_n 0, 1) := by decide +kernel
theorem gd_Model_meet_60 : decode gb_Model_meet 60 = .ok (.getfield 45, 3) := by decide +kernel
theorem gd_Model_meet_63 : decode gb_Model_meet 63 = .ok (.iload 4, 2) := by decide +kernel
theorem gd_Model_meet_65 : decode gb_Model_meet 65 = .ok (.baload, 1) := by decide +kernel
theorem gd_Model_meet_66 : decode gb_Model_meet 66 = .ok (.ifCond .ne 5, 3) := by decide +kernel
theorem gd_Model_meet_69 : decode gb_Model_meet 69 = .ok (.iconst 0, 1) := by decide +kernel
theorem gd_Model_meet_70 : decode gb_Model_meet 70 = .ok (.ireturn, 1) := by decide +kernel
theorem gd_Model_meet_71 : decode gb_Model_meet 71 = .ok (.aload_n 0, 1) := by decide +kernel
theorem gd_Model_meet_72 : decode gb_Model_meet 72 = .ok (.iconst 0, 1) := by decide +kernel
theorem gd_Model_meet_73 : decode gb_Model_meet 73 = .ok (.aload_n 0, 1) := by decide +kernel
theorem gd_Model_meet_74 : decode gb_Model_meet 74 = .ok (.getfield 52, 3) := by decide +kernel
theorem gd_Model_meet_77 : decode gb_Model_meet 77 = .ok (.iload_n 3, 1) := by decide +kernel
theorem gd_Model_meet_78 : decode gb_Model_meet 78 = .ok (.invokevirtual 345, 3) := by decide +kernel
theorem gd_Model_meet_81 : decode gb_Model_meet 81 = .ok (.aload_n 0, 1) := by decide +kernel
theorem gd_Model_meet_82 : decode gb_Model_meet 82 = .ok (.iconst 1, 1) := by decide +kernel
theorem gd_Model_meet_83 : decode gb_Model_meet 83 = .ok (.aload_n 0, 1) := by decide +kernel
theorem gd_Model_meet_84 : decode gb_Model_meet 84 = .ok (.getfield 55, 3) := by decide +kernel
theorem gd_Model_meet_87 : decode gb_Model_meet 87 = .ok (.iload_n 3, 1) := by decide +kernel
theorem gd_Model_meet_88 : decode gb_Model_meet 88 = .ok (.invokevirtual 345, 3) := by decide +kernel
theorem gd_Model_meet_91 : decode gb_Model_meet 91 = .ok (.aload_n 0, 1) := by decide +kernel
theorem gd_Model_meet_92 : decode gb_Model_meet 92 = .ok (.iconst 2, 1) := by decide +kernel
theorem gd_Model_meet_93 : decode gb_Model_meet 93 = .ok (.aload_n 0, 1) := by decide +kernel
theorem gd_Model_meet_94 : decode gb_Model_meet 94 = .ok (.getfield 52, 3) := by decide +kernel
theorem gd_Model_meet_97 : decode gb_Model_meet 97 = .ok (.iload 4, 2) := by decide +kernel
theorem gd_Model_meet_99 : decode gb_Model_meet 99 = .ok (.invokevirtual 345, 3) := by decide +kernel
theorem gd_Model_meet_102 : decode gb_Model_meet 102 = .ok (.aload_n 0, 1) := by decide +kernel
theorem gd_Model_meet_103 : decode gb_Model_meet 103 = .ok (.iconst 3, 1) := by decide +kernel
theorem gd_Model_meet_104 : decode gb_Model_meet 104 = .ok (.aload_n 0, 1) := by decide +kernel
theorem gd_Model_meet_105 : decode gb_Model_meet 105 = .ok (.getfield 55, 3) := by decide +kernel
theorem gd_Model_meet_108 : decode gb_Model_meet 108 = .ok (.iload 4, 2) := by decide +kernel
theorem gd_Model_meet_110 : decode gb_Model_meet 110 = .ok (.invokevirtual 345, 3) := by decide +kernel
theorem gd_Model_meet_113 : decode gb_Model_meet 113 = .ok (.aload_n 0, 1) := by decide +kernel
theorem gd_Model_meet_114 : decode gb_Model_meet 114 = .ok (.iconst 4, 1) := by decide +kernel
theorem gd_Model_meet_115 : decode gb_Model_meet 115 = .ok (.iconst 0, 1) := by decide +kernel
theorem gd_Model_meet_116 : decode gb_Model_meet 116 = .ok (.iconst 3, 1) := by decide +kernel
theorem gd_Model_meet_117 : decode gb_Model_meet 117 = .ok (.invokevirtual 355, 3) := by decide +kernel
theorem gd_Model_meet_120 : decode gb_Model_meet 120 = .ok (.aload_n 0, 1) := by decide +kernel
theorem gd_Model_meet_121 : decode gb_Model_meet 121 = .ok (.iconst 5, 1) := by decide +kernel
theorem gd_Model_meet_122 : decode gb_Model_meet 122 = .ok (.iconst 2, 1) := by decide +kernel
theorem gd_Model_meet_123 : decode gb_Model_meet 123 = .ok (.iconst 1, 1) := by decide +kernel
theorem gd_Model_meet_124 : decode gb_Model_meet 124 = .ok (.invokevirtual 355, 3) := by decide +kernel
theorem gd_Model_meet_127 : decode gb_Model_meet 127 = .ok (.aload_n 0, 1) := by decide +kernel
theorem gd_Model_meet_128 : decode gb_Model_meet 128 = .ok (.bipush 6, 2) := by decide +kernel
theorem gd_Model_meet_130 : decode gb_Model_meet 130 = .ok (.iconst 1, 1) := by decide +kernel
theorem gd_Model_meet_131 : decode gb_Model_meet 131 = .ok (.iconst 3, 1) := by decide +kernel
theorem gd_Model_meet_132 : decode gb_Model_meet 132 = .ok (.invokevirtual 355, 3) := by decide +kernel
theorem gd_Model_meet_135 : decode gb_Model_meet 135 = .ok (.aload_n 0, 1) := by decide +kernel
theorem gd_Model_meet_136 : decode gb_Model_meet 136 = .ok (.getfield 49, 3) := by decide +kernel
theorem gd_Model_meet_139 : decode gb_Model_meet 139 = .ok (.iload_n 3, 1) := by decide +kernel
theorem gd_Model_meet_140 : decode gb_Model_meet 140 = .ok (.iaload, 1) := by decide +kernel
theorem gd_Model_meet_141 : decode gb_Model_meet 141 = .ok (.aload_n 0, 1) := by decide +kernel
theorem gd_Model_meet_142 : decode gb_Model_meet 142 = .ok (.getfield 49, 3) := by decide +kernel
theorem gd_Model_meet_145 : decode gb_Model_meet 145 = .ok (.iload 4, 2) := by decide +kernel
theorem gd_Model_meet_147 : decode gb_Model_meet 147 = .ok (.iaload, 1) := by decide +kernel
theorem gd_Model_meet_148 : decode gb_Model_meet 148 = .ok (.imul, 1) := by decide +kernel
theorem gd_Model_meet_149 : decode gb_Model_meet 149 = .ok (.ifCond .ge 13, 3) := by decide +kernel
theorem gd_Model_meet_152 : decode gb_Model_meet 152 = .ok (.aload_n 0, 1) := by decide +kernel
theorem gd_Model_meet_153 : decode gb_Model_meet 153 = .ok (.iconst 4, 1) := by decide +kernel
theorem gd_Model_meet_154 : decode gb_Model_meet 154 = .ok (.iconst 5, 1) := by decide +kernel
theorem gd_Model_meet_155 : decode gb_Model_meet 155 = .ok (.iconst 0, 1) := by decide +kernel
theorem gd_Model_meet_156 : decode gb_Model_meet 156 = .ok (.invokevirtual 286, 3) := by decide +kernel
theorem gd_Model_meet_159 : decode gb_Model_meet 159 = .ok (.goto 35, 3) := by decide +kernel
theorem gd_Model_meet_162 : decode gb_Model_meet 162 = .ok (.aload_n 0, 1) := by decide +kernel
theorem gd_Model_meet_163 : decode gb_Model_meet 163 = .ok (.iconst 4, 1) := by decide +kernel
theorem gd_Model_meet_164 : decode gb_Model_meet 164 = .ok (.iconst 5, 1) := by decide +kernel
theorem gd_Model_meet_165 : decode gb_Model_meet 165 = .ok (.invokevirtual 283, 3) := by decide +kernel
theorem gd_Model_meet_168 : decode gb_Model_meet 168 = .ok (.ifCond .lt 13, 3) := by decide +kernel
theorem gd_Model_meet_171 : decode gb_Model_meet 171 = .ok (.aload_n 0, 1) := by decide +kernel
theorem gd_Model_meet_172 : decode gb_Model_meet 172 = .ok (.iconst 4, 1) := by decide +kernel
theorem gd_Model_meet_173 : decode gb_Model_meet 173 = .ok (.iconst 5, 1) := by decide +kernel
theorem gd_Model_meet_174 : decode gb_Model_meet 174 = .ok (.iconst 1, 1) := by decide +kernel
theorem gd_Model_meet_175 : decode gb_Model_meet 175 = .ok (.invokevirtual 286, 3) := by decide +kernel
theorem gd_Model_meet_178 : decode gb_Model_meet 178 = .ok (.goto 16, 3) := by decide +kernel
theorem gd_Model_meet_181 : decode gb_Model_meet 181 = .ok (.aload_n 0, 1) := by decide +kernel
theorem gd_Model_meet_182 : decode gb_Model_meet 182 = .ok (.iconst 5, 1) := by decide +kernel
theorem gd_Model_meet_183 : decode gb_Model_meet 183 = .ok (.iconst 4, 1) := by decide +kernel
theorem gd_Model_meet_184 : decode gb_Model_meet 184 = .ok (.iconst 1, 1) := by decide +kernel
theorem gd_Model_meet_185 : decode gb_Model_meet 185 = .ok (.invokevirtual 286, 3) := by decide +kernel
theorem gd_Model_meet_188 : decode gb_Model_meet 188 = .ok (.aload_n 0, 1) := by decide +kernel
theorem gd_Model_meet_189 : decode gb_Model_meet 189 = .ok (.iconst 4, 1) := by decide +kernel
theorem gd_Model_meet_190 : decode gb_Model_meet 190 = .ok (.iconst 5, 1) := by decide +kernel
theorem gd_Model_meet_191 : decode gb_Model_meet 191 = .ok (.invokevirtual 277, 3) := by decide +kernel
theorem gd_Model_meet_194 : decode gb_Model_meet 194 = .ok (.aload_n 0, 1) := by decide +kernel
theorem gd_Model_meet_195 : decode gb_Model_meet 195 = .ok (.iconst 4, 1) := by decide +kernel
theorem gd_Model_meet_196 : decode gb_Model_meet 196 = .ok (.invokevirtual 260, 3) := by decide +kernel
theorem gd_Model_meet_199 : decode gb_Model_meet 199 = .ok (.ifCond .ne 5, 3) := by decide +kernel
theorem gd_Model_meet_202 : decode gb_Model_meet 202 = .ok (.iconst 0, 1) := by decide +kernel
theorem gd_Model_meet_203 : decode gb_Model_meet 203 = .ok (.ireturn, 1) := by decide +kernel
theorem gd_Model_meet_204 : decode gb_Model_meet 204 = .ok (.aload_n 0, 1) := by decide +kernel
theorem gd_Model_meet_205 : decode gb_Model_meet 205 = .ok (.bipush 6, 2) := by decide +kernel
theorem gd_Model_meet_207 : decode gb_Model_meet 207 = .ok (.iconst 4, 1) := by decide +kernel
theorem gd_Model_meet_208 : decode gb_Model_meet 208 = .ok (.invokevirtual 349, 3) := by decide +kernel
theorem gd_Model_meet_211 : decode gb_Model_meet 211 = .ok (.aload_n 0, 1) := by decide +kernel
theorem gd_Model_meet_212 : decode gb_Model_meet 212 = .ok (.bipush 6, 2) := by decide +kernel
theorem gd_Model_meet_214 : decode gb_Model_meet 214 = .ok (.invokevirtual 323, 3) := by decide +kernel
theorem gd_Model_meet_217 : decode gb_Model_meet 217 = .ok (.ifCond .ne 11, 3) := by decide +kernel
theorem gd_Model_meet_220 : decode gb_Model_meet 220 = .ok (.aload_n 0, 1) := by decide +kernel
theorem gd_Model_meet_221 : decode gb_Model_meet 221 = .ok (.iconst 4, 1) := by decide +kernel
theorem gd_Model_meet_222 : decode gb_Model_meet 222 = .ok (.invokevirtual 323, 3) := by decide +kernel
theorem gd_Model_meet_225 : decode gb_Model_meet 225 = .ok (.ifCond .eq 17, 3) := by decide +kernel
theorem gd_Model_meet_228 : decode gb_Model_meet 228 = .ok (.aload_n 0, 1) := by decide +kernel
theorem gd_Model_meet_229 : decode gb_Model_meet 229 = .ok (.iconst 2, 1) := by decide +kernel
theorem gd_Model_meet_230 : decode gb_Model_meet 230 = .ok (.invokevirtual 123, 3) := by decide +kernel
theorem gd_Model_meet_233 : decode gb_Model_meet 233 = .ok (.ifCond .le 7, 3) := by decide +kernel
theorem gd_Model_meet_236 : decode gb_Model_meet 236 = .ok (.iconst 1, 1) := by decide +kernel
theorem gd_Model_meet_237 : decode gb_Model_meet 237 = .ok (.goto 4, 3) := by decide +kernel
theorem gd_Model_meet_240 : decode gb_Model_meet 240 = .ok (.iconst 0, 1) := by decide +kernel
theorem gd_Model_meet_241 : decode gb_Model_meet 241 = .ok (.ireturn, 1) := by decide +kernel
theorem gd_Model_meet_242 : decode gb_Model_meet 242 = .ok (.aload_n 0, 1) := by decide +kernel
theorem gd_Model_meet_243 : decode gb_Model_meet 243 = .ok (.bipush 6, 2) := by decide +kernel
theorem gd_Model_meet_245 : decode gb_Model_meet 245 = .ok (.iconst 4, 1) := by decide +kernel
theorem gd_Model_meet_246 : decode gb_Model_meet 246 = .ok (.invokevirtual 352, 3) := by decide +kernel
theorem gd_Model_meet_249 : decode gb_Model_meet 249 = .ok (.iconst 1, 1) := by decide +kernel
theorem gd_Model_meet_250 : decode gb_Model_meet 250 = .ok (.ireturn, 1) := by decide +kernel
def gf_Model_meet_b34 (F : Nat) (z : gw_Sh)  (u : gw_St) (sx0 : Int32) : Option (Int32 × gw_St) :=
  if ¬ (sx0 &&& 1 = sx0) then none else some (sx0, u)
def gf_Model_meet_b21 (F : Nat) (z : gw_Sh)  (u : gw_St) (t0 : Nat) : Option (Int32 × gw_St) :=
  gf_cl (gf_Model_fail F z u t0 (1 : Int32)) fun a4 u2 => if a4 ≤ 0 then (gf_Model_meet_b34 F z  u2 0) else (gf_Model_meet_b34 F z  u2 1)
def gf_Model_meet_b69 (F : Nat) (z : gw_Sh)  (u : gw_St)  : Option (Int32 × gw_St) :=
  if ¬ ((0 : Int32) &&& 1 = (0 : Int32)) then none else some ((0 : Int32), u)
def gf_Model_meet_b241 (F : Nat) (z : gw_Sh)  (u : gw_St) (sx0 : Int32) : Option (Int32 × gw_St) :=
  if ¬ (sx0 &&& 1 = sx0) then none else some (sx0, u)
def gf_Model_meet_b228 (F : Nat) (z : gw_Sh)  (u : gw_St) (t0 : Nat) : Option (Int32 × gw_St) :=
  gf_cl (gf_Model_fail F z u t0 (2 : Int32)) fun a10 u8 => if a10 ≤ 0 then (gf_Model_meet_b241 F z  u8 0) else (gf_Model_meet_b241 F z  u8 1)
def gf_Model_meet_b194 (F : Nat) (z : gw_Sh)  (u : gw_St) (t0 : Nat) : Option (Int32 × gw_St) :=
  gf_cl (gf_Model_size F z u t0 (4 : Int32)) fun a14 u12 => if a14 = 0 then (if ¬ ((0 : Int32) &&& 1 = (0 : Int32)) then none else some ((0 : Int32), u12)) else ((gf_Model_lowest F z u12 t0 (6 : Int32) (4 : Int32)).bind fun u16 => gf_cl (gf_Model_isLarge F z u16 t0 (6 : Int32)) fun a20 u18 => if a20 = 0 then (gf_cl (gf_Model_isLarge F z u18 t0 (4 : Int32)) fun a24 u22 => if a24 = 0 then ((gf_Model_tell F z u22 t0 (6 : Int32) (4 : Int32)).bind fun u26 => if ¬ ((1 : Int32) &&& 1 = (1 : Int32)) then none else some ((1 : Int32), u26)) else (gf_Model_meet_b228 F z  u22 t0)) else (gf_Model_meet_b228 F z  u18 t0))
def gf_Model_meet_b0 (F : Nat) (z : gw_Sh)  (u : gw_St) (t0 : Nat) (x1 : Int32) (x2 : Int32) : Option (Int32 × gw_St) :=
  gf_nm (gw_wi u t0 0 (0 : Int32)) fun u30 => gf_cl (gf_Model_isDial F z u30 t0 x1) fun a34 u32 => if a34 = 0 then (gf_Model_meet_b21 F z  u32 t0) else (gf_cl (gf_Model_isDial F z u32 t0 x2) fun a38 u36 => if a38 = 0 then (gf_Model_meet_b21 F z  u36 t0) else (gf_nn (u36.2.2 t0 26) fun q40 => if (x1 < 0 ∨ z.2.2 q40 ≤ (x1).toNatClampNeg) then none else gf_nm (u36.1 q40 (x1).toNatClampNeg) fun a43 => gf_nn (u36.2.2 t0 26) fun q45 => if (x2 < 0 ∨ z.2.2 q45 ≤ (x2).toNatClampNeg) then none else gf_nm (u36.1 q45 (x2).toNatClampNeg) fun a48 => gf_nn (u36.2.2 t0 28) fun q50 => if (a43 < 0 ∨ z.2.2 q50 ≤ (a43).toNatClampNeg) then none else if (u36.1 q50 (a43).toNatClampNeg) = 0 then (gf_Model_meet_b69 F z  u36 ) else (gf_nn (u36.2.2 t0 28) fun q54 => if (a48 < 0 ∨ z.2.2 q54 ≤ (a48).toNatClampNeg) then none else if (u36.1 q54 (a48).toNatClampNeg) = 0 then (gf_Model_meet_b69 F z  u36 ) else (gf_nn (u36.2.2 t0 30) fun q58 => (gf_Model_load F z u36 t0 (0 : Int32) q58 a43).bind fun u60 => gf_nn (u60.2.2 t0 31) fun q62 => (gf_Model_load F z u60 t0 (1 : Int32) q62 a43).bind fun u64 => gf_nn (u64.2.2 t0 30) fun q66 => (gf_Model_load F z u64 t0 (2 : Int32) q66 a48).bind fun u68 => gf_nn (u68.2.2 t0 31) fun q70 => (gf_Model_load F z u68 t0 (3 : Int32) q70 a48).bind fun u72 => (gf_Model_multiply F z u72 t0 (4 : Int32) (0 : Int32) (3 : Int32)).bind fun u74 => (gf_Model_multiply F z u74 t0 (5 : Int32) (2 : Int32) (1 : Int32)).bind fun u76 => (gf_Model_multiply F z u76 t0 (6 : Int32) (1 : Int32) (3 : Int32)).bind fun u78 => gf_nn (u78.2.2 t0 29) fun q80 => if (a43 < 0 ∨ z.2.2 q80 ≤ (a43).toNatClampNeg) then none else gf_nn (u78.2.2 t0 29) fun q83 => if (a48 < 0 ∨ z.2.2 q83 ≤ (a48).toNatClampNeg) then none else if 0 ≤ ((u78.1 q80 (a43).toNatClampNeg) * (u78.1 q83 (a48).toNatClampNeg)) then (gf_cl (gf_Model_compareWide F z u78 t0 (4 : Int32) (5 : Int32)) fun a89 u87 => if a89 < 0 then ((gf_Model_addWide F z u87 t0 (5 : Int32) (4 : Int32) (1 : Int32)).bind fun u91 => (gf_Model_copyWide F z u91 t0 (4 : Int32) (5 : Int32)).bind fun u93 => gf_Model_meet_b194 F z  u93 t0) else ((gf_Model_addWide F z u87 t0 (4 : Int32) (5 : Int32) (1 : Int32)).bind fun u95 => gf_Model_meet_b194 F z  u95 t0)) else ((gf_Model_addWide F z u78 t0 (4 : Int32) (5 : Int32) (0 : Int32)).bind fun u97 => gf_Model_meet_b194 F z  u97 t0)))))
def gf_Model_meet (F : Nat) (z : gw_Sh) (u : gw_St) (t0 : Nat) (x1 : Int32) (x2 : Int32) : Option (Int32 × gw_St) := gf_Model_meet_b0 F z  u t0 x1 x2
set_option maxHeartbeats 4000000 in
set_option maxRecDepth 20000 in
theorem gx_Model_meet_b34 {p : Program} {l : Launch} {e : Env} {s : State} {m : MethodId} {args : Array Value} {below : List Frame} {meth : Method} {c : Code} {D : va_G} {cA : Nat → ClassId} {hs : Nat → Nat} {z : gw_Sh} (F : Nat) {r0 : (Int32 × gw_St)} (C : gw_Cx p s m args c gb_Model_meet 5 R_Model D cA) (hr : meth.sig.returnType = (some .boolean)) (hk : meth.locks = false) (u : gw_St) (sx0 : Int32)  {H : Heap} {locs : List Loc} {ls : Array Slot} (hW : gw_Wx D cA hs z s u H locs) (hl : lv_has ls 5 []) (h : gf_Model_meet_b34 F z   u sx0 = some r0) : gw_Gi p l e gr_Model_meet s m args below meth c D cA hs z r0 H locs ls 34 [.int sx0] := by
  obtain ⟨hx, hb, hml, hown, hts, hK⟩ := id C
  unfold gf_Model_meet_b34 at h
  obtain ⟨g1, h⟩ := gf_if_ok h
  obtain rfl := Option.some.inj h
  exact gw_zret C hW hr (Decidable.not_not.mp g1) hk gd_Model_meet_34

set_option maxHeartbeats 4000000 in
set_option maxRecDepth 20000 in
theorem gx_Model_meet_b21 {p : Program} {l : Launch} {e : Env} {s : State} {m : MethodId} {args : Array Value} {below : List Frame} {meth : Method} {c : Code} {D : va_G} {cA : Nat → ClassId} {hs : Nat → Nat} {z : gw_Sh} (F : Nat) {r0 : (Int32 × gw_St)} (C : gw_Cx p s m args c gb_Model_meet 5 R_Model D cA) (hr : meth.sig.returnType = (some .boolean)) (hk : meth.locks = false) (u : gw_St) (t0 : Nat) (o_t0 : gw_ok z t0 9) {H : Heap} {locs : List Loc} {ls : Array Slot} (hW : gw_Wx D cA hs z s u H locs) (hl : lv_has ls 5 [(0, .ref (hs t0))]) (h : gf_Model_meet_b21 F z   u t0 = some r0) : gw_Gi p l e gr_Model_meet s m args below meth c D cA hs z r0 H locs ls 21 [] := by
  obtain ⟨hx, hb, hml, hown, hts, hK⟩ := id C
  unfold gf_Model_meet_b21 at h
  refine lv_aload_n hx hb gd_Model_meet_21 rfl (lv_at hl 0 rfl) ?_
  refine lv_iconst (v := 1) hx hb gd_Model_meet_22 (by decide) ?_
  obtain ⟨a4, u2, d3, h⟩ := gf_cl_ok h
  refine gw_callVi (K := R_Model) (As := [.int (1 : Int32)]) (rest := []) C hW (fun _ h => Or.inr h) hl.1 gm_Model_fail (gc_Model_fail l F o_t0 d3 _) gk_385 gk_386 gk_387 o_t0 (by decide) rfl rfl rfl ⟨Nat.le_of_ble_eq_true rfl, Nat.le_of_ble_eq_true rfl⟩ ⟨Nat.zero_le _, Nat.zero_le _⟩ rfl rfl (Nat.le_of_ble_eq_true rfl) gd_Model_meet_23 (fun H locs hW => ?_)
  refine lv_if_le (tgt := 33) hx hb gd_Model_meet_26 (by decide) (fun c5 => ?_) (fun c5 => ?_)
  · have h := gf_t c5 h
    refine lv_iconst (v := 0) hx hb gd_Model_meet_33 (by decide) ?_
    exact gx_Model_meet_b34 F C hr hk  u2 0  hW (lv_sub hl [] rfl) h
  · have h := gf_f c5 h
    refine lv_iconst (v := 1) hx hb gd_Model_meet_29 (by decide) ?_
    refine lv_goto (tgt := 34) hx hb gd_Model_meet_30 (by decide) ?_
    exact gx_Model_meet_b34 F C hr hk  u2 1  hW (lv_sub hl [] rfl) h

set_option maxHeartbeats 4000000 in
set_option maxRecDepth 20000 in
theorem gx_Model_meet_b69 {p : Program} {l : Launch} {e : Env} {s : State} {m : MethodId} {args : Array Value} {below : List Frame} {meth : Method} {c : Code} {D : va_G} {cA : Nat → ClassId} {hs : Nat → Nat} {z : gw_Sh} (F : Nat) {r0 : (Int32 × gw_St)} (C : gw_Cx p s m args c gb_Model_meet 5 R_Model D cA) (hr : meth.sig.returnType = (some .boolean)) (hk : meth.locks = false) (u : gw_St)   {H : Heap} {locs : List Loc} {ls : Array Slot} (hW : gw_Wx D cA hs z s u H locs) (hl : lv_has ls 5 []) (h : gf_Model_meet_b69 F z   u  = some r0) : gw_Gi p l e gr_Model_meet s m args below meth c D cA hs z r0 H locs ls 69 [] := by
  obtain ⟨hx, hb, hml, hown, hts, hK⟩ := id C
  unfold gf_Model_meet_b69 at h
  refine lv_iconst (v := 0) hx hb gd_Model_meet_69 (by decide) ?_
  obtain ⟨g6, h⟩ := gf_if_ok h
  obtain rfl := Option.some.inj h
  exact gw_zret C hW hr (Decidable.not_not.mp g6) hk gd_Model_meet_70

set_option maxHeartbeats 4000000 in
set_option maxRecDepth 20000 in
theorem gx_Model_meet_b241 {p : Program} {l : Launch} {e : Env} {s : State} {m : MethodId} {args : Array Value} {below : List Frame} {meth : Method} {c : Code} {D : va_G} {cA : Nat → ClassId} {hs : Nat → Nat} {z : gw_Sh} (F : Nat) {r0 : (Int32 × gw_St)} (C : gw_Cx p s m args c gb_Model_meet 5 R_Model D cA) (hr : meth.sig.returnType = (some .boolean)) (hk : meth.locks = false) (u : gw_St) (sx0 : Int32)  {H : Heap} {locs : List Loc} {ls : Array Slot} (hW : gw_Wx D cA hs z s u H locs) (hl : lv_has ls 5 []) (h : gf_Model_meet_b241 F z   u sx0 = some r0) : gw_Gi p l e gr_Model_meet s m args below meth c D cA hs z r0 H locs ls 241 [.int sx0] := by
  obtain ⟨hx, hb, hml, hown, hts, hK⟩ := id C
  unfold gf_Model_meet_b241 at h
  obtain ⟨g7, h⟩ := gf_if_ok h
  obtain rfl := Option.some.inj h
  exact gw_zret C hW hr (Decidable.not_not.mp g7) hk gd_Model_meet_241

set_option maxHeartbeats 4000000 in
set_option maxRecDepth 20000 in
theorem gx_Model_meet_b228 {p : Program} {l : Launch} {e : Env} {s : State} {m : MethodId} {args : Array Value} {below : List Frame} {meth : Method} {c : Code} {D : va_G} {cA : Nat → ClassId} {hs : Nat → Nat} {z : gw_Sh} (F : Nat) {r0 : (Int32 × gw_St)} (C : gw_Cx p s m args c gb_Model_meet 5 R_Model D cA) (hr : meth.sig.returnType = (some .boolean)) (hk : meth.locks = false) (u : gw_St) (t0 : Nat) (o_t0 : gw_ok z t0 9) {H : Heap} {locs : List Loc} {ls : Array Slot} (hW : gw_Wx D cA hs z s u H locs) (hl : lv_has ls 5 [(0, .ref (hs t0))]) (h : gf_Model_meet_b228 F z   u t0 = some r0) : gw_Gi p l e gr_Model_meet s m args below meth c D cA hs z r0 H locs ls 228 [] := by
  obtain ⟨hx, hb, hml, hown, hts, hK⟩ := id C
  unfold gf_Model_meet_b228 at h
  refine lv_aload_n hx hb gd_Model_meet_228 rfl (lv_at hl 0 rfl) ?_
  refine lv_iconst (v := 2) hx hb gd_Model_meet_229 (by decide) ?_
  obtain ⟨a10, u8, d9, h⟩ := gf_cl_ok h
  refine gw_callVi (K := R_Model) (As := [.int (2 : Int32)]) (rest := []) C hW (fun _ h => Or.inr h) hl.1 gm_Model_fail (gc_Model_fail l F o_t0 d9 _) gk_385 gk_386 gk_387 o_t0 (by decide) rfl rfl rfl ⟨Nat.le_of_ble_eq_true rfl, Nat.le_of_ble_eq_true rfl⟩ ⟨Nat.zero_le _, Nat.zero_le _⟩ rfl rfl (Nat.le_of_ble_eq_true rfl) gd_Model_meet_230 (fun H locs hW => ?_)
  refine lv_if_le (tgt := 240) hx hb gd_Model_meet_233 (by decide) (fun c11 => ?_) (fun c11 => ?_)
  · have h := gf_t c11 h
    refine lv_iconst (v := 0) hx hb gd_Model_meet_240 (by decide) ?_
    exact gx_Model_meet_b241 F C hr hk  u8 0  hW (lv_sub hl [] rfl) h
  · have h := gf_f c11 h
    refine lv_iconst (v := 1) hx hb gd_Model_meet_236 (by decide) ?_
    refine lv_goto (tgt := 241) hx hb gd_Model_meet_237 (by decide) ?_
    exact gx_Model_meet_b241 F C hr hk  u8 1  hW (lv_sub hl [] rfl) h

set_option maxHeartbeats 4000000 in
set_option maxRecDepth 20000 in
theorem gx_Model_meet_b194 {p : Program} {l : Launch} {e : Env} {s : State} {m : MethodId} {args : Array Value} {below : List Frame} {meth : Method} {c : Code} {D : va_G} {cA : Nat → ClassId} {hs : Nat → Nat} {z : gw_Sh} (F : Nat) {r0 : (Int32 × gw_St)} (C : gw_Cx p s m args c gb_Model_meet 5 R_Model D cA) (hr : meth.sig.returnType = (some .boolean)) (hk : meth.locks = false) (u : gw_St) (t0 : Nat) (o_t0 : gw_ok z t0 9) {H : Heap} {locs : List Loc} {ls : Array Slot} (hW : gw_Wx D cA hs z s u H locs) (hl : lv_has ls 5 [(0, .ref (hs t0))]) (h : gf_Model_meet_b194 F z   u t0 = some r0) : gw_Gi p l e gr_Model_meet s m args below meth c D cA hs z r0 H locs ls 194 [] := by
  obtain ⟨hx, hb, hml, hown, hts, hK⟩ := id C
  unfold gf_Model_meet_b194 at h
  refine lv_aload_n hx hb gd_Model_meet_194 rfl (lv_at hl 0 rfl) ?_
  refine lv_iconst (v := 4) hx hb gd_Model_meet_195 (by decide) ?_
  obtain ⟨a14, u12, d13, h⟩ := gf_cl_ok h
  refine gw_callVi (K := R_Model) (As := [.int (4 : Int32)]) (rest := []) C hW (fun _ h => Or.inr h) hl.1 gm_Model_size (gc_Model_size l F o_t0 d13 _) gk_530 gk_531 gk_532 o_t0 (by decide) rfl rfl rfl ⟨Nat.le_of_ble_eq_true rfl, Nat.le_of_ble_eq_true rfl⟩ ⟨Nat.zero_le _, Nat.zero_le _⟩ rfl rfl (Nat.le_of_ble_eq_true rfl) gd_Model_meet_196 (fun H locs hW => ?_)
  refine lv_if_ne (tgt := 204) hx hb gd_Model_meet_199 (by decide) (fun c15 => ?_) (fun c15 => ?_)
  · have h := gf_f c15 h
    refine lv_aload_n hx hb gd_Model_meet_204 rfl (lv_at hl 0 rfl) ?_
    refine lv_bipush (v := 6) hx hb gd_Model_meet_205 (by decide) ?_
    refine lv_iconst (v := 4) hx hb gd_Model_meet_207 (by decide) ?_
    obtain ⟨u16, d17, h⟩ := gf_bd_ok h
    refine gw_callVv (K := R_Model) (As := [.int (6 : Int32), .int (4 : Int32)]) (rest := []) C hW (fun _ h => Or.inr h) hl.1 gm_Model_lowest (gc_Model_lowest l F o_t0 d17 _) gk_638 gk_639 gk_640 o_t0 (by decide) rfl rfl rfl ⟨Nat.le_of_ble_eq_true rfl, Nat.le_of_ble_eq_true rfl⟩ ⟨Nat.zero_le _, Nat.zero_le _⟩ rfl rfl (Nat.le_of_ble_eq_true rfl) gd_Model_meet_208 (fun H locs hW => ?_)
    refine lv_aload_n hx hb gd_Model_meet_211 rfl (lv_at hl 0 rfl) ?_
    refine lv_bipush (v := 6) hx hb gd_Model_meet_212 (by decide) ?_
    obtain ⟨a20, u18, d19, h⟩ := gf_cl_ok h
    refine gw_callVi (K := R_Model) (As := [.int (6 : Int32)]) (rest := []) C hW (fun _ h => Or.inr h) hl.1 gm_Model_isLarge (gc_Model_isLarge l F o_t0 d19 _) gk_604 gk_605 gk_606 o_t0 (by decide) rfl rfl rfl ⟨Nat.le_of_ble_eq_true rfl, Nat.le_of_ble_eq_true rfl⟩ ⟨Nat.zero_le _, Nat.zero_le _⟩ rfl rfl (Nat.le_of_ble_eq_true rfl) gd_Model_meet_214 (fun H locs hW => ?_)
    refine lv_if_ne (tgt := 228) hx hb gd_Model_meet_217 (by decide) (fun c21 => ?_) (fun c21 => ?_)
    · have h := gf_f c21 h
      exact gx_Model_meet_b228 F C hr hk  u18 t0 o_t0 hW (lv_sub hl [0] rfl) h
    · have h := gf_t c21 h
      refine lv_aload_n hx hb gd_Model_meet_220 rfl (lv_at hl 0 rfl) ?_
      refine lv_iconst (v := 4) hx hb gd_Model_meet_221 (by decide) ?_
      obtain ⟨a24, u22, d23, h⟩ := gf_cl_ok h
      refine gw_callVi (K := R_Model) (As := [.int (4 : Int32)]) (rest := []) C hW (fun _ h => Or.inr h) hl.1 gm_Model_isLarge (gc_Model_isLarge l F o_t0 d23 _) gk_604 gk_605 gk_606 o_t0 (by decide) rfl rfl rfl ⟨Nat.le_of_ble_eq_true rfl, Nat.le_of_ble_eq_true rfl⟩ ⟨Nat.zero_le _, Nat.zero_le _⟩ rfl rfl (Nat.le_of_ble_eq_true rfl) gd_Model_meet_222 (fun H locs hW => ?_)
      refine lv_if_eq (tgt := 242) hx hb gd_Model_meet_225 (by decide) (fun c25 => ?_) (fun c25 => ?_)
      · have h := gf_t c25 h
        refine lv_aload_n hx hb gd_Model_meet_242 rfl (lv_at hl 0 rfl) ?_
        refine lv_bipush (v := 6) hx hb gd_Model_meet_243 (by decide) ?_
        refine lv_iconst (v := 4) hx hb gd_Model_meet_245 (by decide) ?_
        obtain ⟨u26, d27, h⟩ := gf_bd_ok h
        refine gw_callVv (K := R_Model) (As := [.int (6 : Int32), .int (4 : Int32)]) (rest := []) C hW (fun _ h => Or.inr h) hl.1 gm_Model_tell (gc_Model_tell l F o_t0 d27 _) gk_641 gk_642 gk_643 o_t0 (by decide) rfl rfl rfl ⟨Nat.le_of_ble_eq_true rfl, Nat.le_of_ble_eq_true rfl⟩ ⟨Nat.zero_le _, Nat.zero_le _⟩ rfl rfl (Nat.le_of_ble_eq_true rfl) gd_Model_meet_246 (fun H locs hW => ?_)
        refine lv_iconst (v := 1) hx hb gd_Model_meet_249 (by decide) ?_
        obtain ⟨g28, h⟩ := gf_if_ok h
        obtain rfl := Option.some.inj h
        exact gw_zret C hW hr (Decidable.not_not.mp g28) hk gd_Model_meet_250
      · have h := gf_f c25 h
        exact gx_Model_meet_b228 F C hr hk  u22 t0 o_t0 hW (lv_sub hl [0] rfl) h
  · have h := gf_t c15 h
    refine lv_iconst (v := 0) hx hb gd_Model_meet_202 (by decide) ?_
    obtain ⟨g29, h⟩ := gf_if_ok h
    obtain rfl := Option.some.inj h
    exact gw_zret C hW hr (Decidable.not_not.mp g29) hk gd_Model_meet_203

set_option maxHeartbeats 4000000 in
set_option maxRecDepth 20000 in
theorem gx_Model_meet_b0 {p : Program} {l : Launch} {e : Env} {s : State} {m : MethodId} {args : Array Value} {below : List Frame} {meth : Method} {c : Code} {D : va_G} {cA : Nat → ClassId} {hs : Nat → Nat} {z : gw_Sh} (F : Nat) {r0 : (Int32 × gw_St)} (C : gw_Cx p s m args c gb_Model_meet 5 R_Model D cA) (hr : meth.sig.returnType = (some .boolean)) (hk : meth.locks = false) (u : gw_St) (t0 : Nat) (x1 : Int32) (x2 : Int32) (o_t0 : gw_ok z t0 9) {H : Heap} {locs : List Loc} {ls : Array Slot} (hW : gw_Wx D cA hs z s u H locs) (hl : lv_has ls 5 [(0, .ref (hs t0)), (1, .int x1), (2, .int x2)]) (h : gf_Model_meet_b0 F z   u t0 x1 x2 = some r0) : gw_Gi p l e gr_Model_meet s m args below meth c D cA hs z r0 H locs ls 0 [] := by
  obtain ⟨hx, hb, hml, hown, hts, hK⟩ := id C
  unfold gf_Model_meet_b0 at h
  refine lv_aload_n hx hb gd_Model_meet_0 rfl (lv_at hl 0 rfl) ?_
  refine lv_iconst (v := 0) hx hb gd_Model_meet_1 (by decide) ?_
  refine gw_puti (k := 0) (ref := R_Model) (fty := .int) C hW o_t0 (by decide) rfl gi_Model rfl (by decide) rfl rfl gk_376 tf_Model tf_Model_ok nm_Model rfl rfl rfl rfl gd_Model_meet_2 (fun u30 H locs e31 hW => ?_)
  have h := gf_nm_ok e31 h
  refine lv_aload_n hx hb gd_Model_meet_5 rfl (lv_at hl 0 rfl) ?_
  refine lv_iload_n hx hb gd_Model_meet_6 rfl (lv_at hl 1 rfl) ?_
  obtain ⟨a34, u32, d33, h⟩ := gf_cl_ok h
  refine gw_callVi (K := R_Model) (As := [.int x1]) (rest := []) C hW (fun _ h => Or.inr h) hl.1 gm_Model_isDial (gc_Model_isDial l F o_t0 d33 _) gk_644 gk_645 gk_646 o_t0 (by decide) rfl rfl rfl ⟨Nat.le_of_ble_eq_true rfl, Nat.le_of_ble_eq_true rfl⟩ ⟨Nat.zero_le _, Nat.zero_le _⟩ rfl rfl (Nat.le_of_ble_eq_true rfl) gd_Model_meet_7 (fun H locs hW => ?_)
  refine lv_if_eq (tgt := 21) hx hb gd_Model_meet_10 (by decide) (fun c35 => ?_) (fun c35 => ?_)
  · have h := gf_t c35 h
    exact gx_Model_meet_b21 F C hr hk  u32 t0 o_t0 hW (lv_sub hl [0] rfl) h
  · have h := gf_f c35 h
    refine lv_aload_n hx hb gd_Model_meet_13 rfl (lv_at hl 0 rfl) ?_
    refine lv_iload_n hx hb gd_Model_meet_14 rfl (lv_at hl 2 rfl) ?_
    obtain ⟨a38, u36, d37, h⟩ := gf_cl_ok h
    refine gw_callVi (K := R_Model) (As := [.int x2]) (rest := []) C hW (fun _ h => Or.inr h) hl.1 gm_Model_isDial (gc_Model_isDial l F o_t0 d37 _) gk_644 gk_645 gk_646 o_t0 (by decide) rfl rfl rfl ⟨Nat.le_of_ble_eq_true rfl, Nat.le_of_ble_eq_true rfl⟩ ⟨Nat.zero_le _, Nat.zero_le _⟩ rfl rfl (Nat.le_of_ble_eq_true rfl) gd_Model_meet_15 (fun H locs hW => ?_)
    refine lv_if_ne (tgt := 35) hx hb gd_Model_meet_18 (by decide) (fun c39 => ?_) (fun c39 => ?_)
    · have h := gf_f c39 h
      refine lv_aload_n hx hb gd_Model_meet_35 rfl (lv_at hl 0 rfl) ?_
      obtain ⟨q40, e41, h⟩ := gf_nn_ok h
      refine gw_getr (k := 26) (ty := 10) (ref := R_Model) C hW o_t0 (by decide) rfl gi_Model rfl (by decide) rfl rfl gk_631 gd_Model_meet_36 e41 ?_
      have o_q40 := hW.ref (d := 10) o_t0 e41 rfl
      refine lv_iload_n hx hb gd_Model_meet_39 rfl (lv_at hl 1 rfl) ?_
      obtain ⟨g42, h⟩ := gf_if_ok h
      refine gw_iald C hW o_q40 g42 gd_Model_meet_40 ?_
      refine lv_topi (fun a43 e44 => ?_)
      have h := gf_nm_ok e44 h
      refine lv_istore_n (lv' := [(3, .int a43), (0, .ref (hs t0)), (1, .int x1), (2, .int x2)]) hx hb gd_Model_meet_41 rfl hl (by decide) rfl (fun ls hl => ?_)
      refine lv_aload_n hx hb gd_Model_meet_42 rfl (lv_at hl 1 rfl) ?_
      obtain ⟨q45, e46, h⟩ := gf_nn_ok h
      refine gw_getr (k := 26) (ty := 10) (ref := R_Model) C hW o_t0 (by decide) rfl gi_Model rfl (by decide) rfl rfl gk_631 gd_Model_meet_43 e46 ?_
      have o_q45 := hW.ref (d := 10) o_t0 e46 rfl
      refine lv_iload_n hx hb gd_Model_meet_46 rfl (lv_at hl 3 rfl) ?_
      obtain ⟨g47, h⟩ := gf_if_ok h
      refine gw_iald C hW o_q45 g47 gd_Model_meet_47 ?_
      refine lv_topi (fun a48 e49 => ?_)
      have h := gf_nm_ok e49 h
      refine lv_istore (lv' := [(4, .int a48), (3, .int a43), (0, .ref (hs t0)), (1, .int x1), (2, .int x2)]) hx hb gd_Model_meet_48 hl (by decide) rfl (fun ls hl => ?_)
      refine lv_aload_n hx hb gd_Model_meet_50 rfl (lv_at hl 2 rfl) ?_
      obtain ⟨q50, e51, h⟩ := gf_nn_ok h
      refine gw_getr (k := 28) (ty := 12) (ref := R_Model) C hW o_t0 (by decide) rfl gi_Model rfl (by decide) rfl rfl gk_463 gd_Model_meet_51 e51 ?_
      have o_q50 := hW.ref (d := 12) o_t0 e51 rfl
      refine lv_iload_n hx hb gd_Model_meet_54 rfl (lv_at hl 1 rfl) ?_
      obtain ⟨g52, h⟩ := gf_if_ok h
      refine gw_zald C hW o_q50 g52 gd_Model_meet_55 ?_
      refine lv_if_eq (tgt := 69) hx hb gd_Model_meet_56 (by decide) (fun c53 => ?_) (fun c53 => ?_)
      · have h := gf_t c53 h
        exact gx_Model_meet_b69 F C hr hk  u36   hW (lv_sub hl [] rfl) h
      · have h := gf_f c53 h
        refine lv_aload_n hx hb gd_Model_meet_59 rfl (lv_at hl 2 rfl) ?_
        obtain ⟨q54, e55, h⟩ := gf_nn_ok h
        refine gw_getr (k := 28) (ty := 12) (ref := R_Model) C hW o_t0 (by decide) rfl gi_Model rfl (by decide) rfl rfl gk_463 gd_Model_meet_60 e55 ?_
        have o_q54 := hW.ref (d := 12) o_t0 e55 rfl
        refine lv_iload hx hb gd_Model_meet_63 (lv_at hl 0 rfl) ?_
        obtain ⟨g56, h⟩ := gf_if_ok h
        refine gw_zald C hW o_q54 g56 gd_Model_meet_65 ?_
        refine lv_if_ne (tgt := 71) hx hb gd_Model_meet_66 (by decide) (fun c57 => ?_) (fun c57 => ?_)
        · have h := gf_f c57 h
          refine lv_aload_n hx hb gd_Model_meet_71 rfl (lv_at hl 2 rfl) ?_
          refine lv_iconst (v := 0) hx hb gd_Model_meet_72 (by decide) ?_
          refine lv_aload_n hx hb gd_Model_meet_73 rfl (lv_at hl 2 rfl) ?_
          obtain ⟨q58, e59, h⟩ := gf_nn_ok h
          refine gw_getr (k := 30) (ty := 10) (ref := R_Model) C hW o_t0 (by decide) rfl gi_Model rfl (by decide) rfl rfl gk_616 gd_Model_meet_74 e59 ?_
          have o_q58 := hW.ref (d := 10) o_t0 e59 rfl
          refine lv_iload_n hx hb gd_Model_meet_77 rfl (lv_at hl 1 rfl) ?_
          obtain ⟨u60, d61, h⟩ := gf_bd_ok h
          refine gw_callVv (K := R_Model) (As := [.int (0 : Int32), .ref (hs q58), .int a43]) (rest := []) C hW (fun _ h => Or.inr h) hl.1 gm_Model_load (gc_Model_load l F o_t0 o_q58 d61 _) gk_647 gk_648 gk_649 o_t0 (by decide) rfl rfl rfl ⟨Nat.le_of_ble_eq_true rfl, Nat.le_of_ble_eq_true rfl⟩ ⟨Nat.zero_le _, Nat.zero_le _⟩ rfl rfl (Nat.le_of_ble_eq_true rfl) gd_Model_meet_78 (fun H locs hW => ?_)
          refine lv_aload_n hx hb gd_Model_meet_81 rfl (lv_at hl 2 rfl) ?_
          refine lv_iconst (v := 1) hx hb gd_Model_meet_82 (by decide) ?_
          refine lv_aload_n hx hb gd_Model_meet_83 rfl (lv_at hl 2 rfl) ?_
          obtain ⟨q62, e63, h⟩ := gf_nn_ok h
          refine gw_getr (k := 31) (ty := 10) (ref := R_Model) C hW o_t0 (by decide) rfl gi_Model rfl (by decide) rfl rfl gk_617 gd_Model_meet_84 e63 ?_
          have o_q62 := hW.ref (d := 10) o_t0 e63 rfl
          refine lv_iload_n hx hb gd_Model_meet_87 rfl (lv_at hl 1 rfl) ?_
          obtain ⟨u64, d65, h⟩ := gf_bd_ok h
          refine gw_callVv (K := R_Model) (As := [.int (1 : Int32), .ref (hs q62), .int a43]) (rest := []) C hW (fun _ h => Or.inr h) hl.1 gm_Model_load (gc_Model_load l F o_t0 o_q62 d65 _) gk_647 gk_648 gk_649 o_t0 (by decide) rfl rfl rfl ⟨Nat.le_of_ble_eq_true rfl, Nat.le_of_ble_eq_true rfl⟩ ⟨Nat.zero_le _, Nat.zero_le _⟩ rfl rfl (Nat.le_of_ble_eq_true rfl) gd_Model_meet_88 (fun H locs hW => ?_)
          refine lv_aload_n hx hb gd_Model_meet_91 rfl (lv_at hl 2 rfl) ?_
          refine lv_iconst (v := 2) hx hb gd_Model_meet_92 (by decide) ?_
          refine lv_aload_n hx hb gd_Model_meet_93 rfl (lv_at hl 2 rfl) ?_
          obtain ⟨q66, e67, h⟩ := gf_nn_ok h
          refine gw_getr (k := 30) (ty := 10) (ref := R_Model) C hW o_t0 (by decide) rfl gi_Model rfl (by decide) rfl rfl gk_616 gd_Model_meet_94 e67 ?_
          have o_q66 := hW.ref (d := 10) o_t0 e67 rfl
          refine lv_iload hx hb gd_Model_meet_97 (lv_at hl 0 rfl) ?_
          obtain ⟨u68, d69, h⟩ := gf_bd_ok h
          refine gw_callVv (K := R_Model) (As := [.int (2 : Int32), .ref (hs q66), .int a48]) (rest := []) C hW (fun _ h => Or.inr h) hl.1 gm_Model_load (gc_Model_load l F o_t0 o_q66 d69 _) gk_647 gk_648 gk_649 o_t0 (by decide) rfl rfl rfl ⟨Nat.le_of_ble_eq_true rfl, Nat.le_of_ble_eq_true rfl⟩ ⟨Nat.zero_le _, Nat.zero_le _⟩ rfl rfl (Nat.le_of_ble_eq_true rfl) gd_Model_meet_99 (fun H locs hW => ?_)
          refine lv_aload_n hx hb gd_Model_meet_102 rfl (lv_at hl 2 rfl) ?_
          refine lv_iconst (v := 3) hx hb gd_Model_meet_103 (by decide) ?_
          refine lv_aload_n hx hb gd_Model_meet_104 rfl (lv_at hl 2 rfl) ?_
          obtain ⟨q70, e71, h⟩ := gf_nn_ok h
          refine gw_getr (k := 31) (ty := 10) (ref := R_Model) C hW o_t0 (by decide) rfl gi_Model rfl (by decide) rfl rfl gk_617 gd_Model_meet_105 e71 ?_
          have o_q70 := hW.ref (d := 10) o_t0 e71 rfl
          refine lv_iload hx hb gd_Model_meet_108 (lv_at hl 0 rfl) ?_
          obtain ⟨u72, d73, h⟩ := gf_bd_ok h
          refine gw_callVv (K := R_Model) (As := [.int (3 : Int32), .ref (hs q70), .int a48]) (rest := []) C hW (fun _ h => Or.inr h) hl.1 gm_Model_load (gc_Model_load l F o_t0 o_q70 d73 _) gk_647 gk_648 gk_649 o_t0 (by decide) rfl rfl rfl ⟨Nat.le_of_ble_eq_true rfl, Nat.le_of_ble_eq_true rfl⟩ ⟨Nat.zero_le _, Nat.zero_le _⟩ rfl rfl (Nat.le_of_ble_eq_true rfl) gd_Model_meet_110 (fun H locs hW => ?_)
          refine lv_aload_n hx hb gd_Model_meet_113 rfl (lv_at hl 2 rfl) ?_
          refine lv_iconst (v := 4) hx hb gd_Model_meet_114 (by decide) ?_
          refine lv_iconst (v := 0) hx hb gd_Model_meet_115 (by decide) ?_
          refine lv_iconst (v := 3) hx hb gd_Model_meet_116 (by decide) ?_
          obtain ⟨u74, d75, h⟩ := gf_bd_ok h
          refine gw_callVv (K := R_Model) (As := [.int (4 : Int32), .int (0 : Int32), .int (3 : Int32)]) (rest := []) C hW (fun _ h => Or.inr h) hl.1 gm_Model_multiply (gc_Model_multiply l F o_t0 d75 _) gk_651 gk_652 gk_653 o_t0 (by decide) rfl rfl rfl ⟨Nat.le_of_ble_eq_true rfl, Nat.le_of_ble_eq_true rfl⟩ ⟨Nat.zero_le _, Nat.zero_le _⟩ rfl rfl (Nat.le_of_ble_eq_true rfl) gd_Model_meet_117 (fun H locs hW => ?_)
          refine lv_aload_n hx hb gd_Model_meet_120 rfl (lv_at hl 2 rfl) ?_
          refine lv_iconst (v := 5) hx hb gd_Model_meet_121 (by decide) ?_
          refine lv_iconst (v := 2) hx hb gd_Model_meet_122 (by decide) ?_
          refine lv_iconst (v := 1) hx hb gd_Model_meet_123 (by decide) ?_
          obtain ⟨u76, d77, h⟩ := gf_bd_ok h
          refine gw_callVv (K := R_Model) (As := [.int (5 : Int32), .int (2 : Int32), .int (1 : Int32)]) (rest := []) C hW (fun _ h => Or.inr h) hl.1 gm_Model_multiply (gc_Model_multiply l F o_t0 d77 _) gk_651 gk_652 gk_653 o_t0 (by decide) rfl rfl rfl ⟨Nat.le_of_ble_eq_true rfl, Nat.le_of_ble_eq_true rfl⟩ ⟨Nat.zero_le _, Nat.zero_le _⟩ rfl rfl (Nat.le_of_ble_eq_true rfl) gd_Model_meet_124 (fun H locs hW => ?_)
          refine lv_aload_n hx hb gd_Model_meet_127 rfl (lv_at hl 2 rfl) ?_
          refine lv_bipush (v := 6) hx hb gd_Model_meet_128 (by decide) ?_
          refine lv_iconst (v := 1) hx hb gd_Model_meet_130 (by decide) ?_
          refine lv_iconst (v := 3) hx hb gd_Model_meet_131 (by decide) ?_
          obtain ⟨u78, d79, h⟩ := gf_bd_ok h
          refine gw_callVv (K := R_Model) (As := [.int (6 : Int32), .int (1 : Int32), .int (3 : Int32)]) (rest := []) C hW (fun _ h => Or.inr h) hl.1 gm_Model_multiply (gc_Model_multiply l F o_t0 d79 _) gk_651 gk_652 gk_653 o_t0 (by decide) rfl rfl rfl ⟨Nat.le_of_ble_eq_true rfl, Nat.le_of_ble_eq_true rfl⟩ ⟨Nat.zero_le _, Nat.zero_le _⟩ rfl rfl (Nat.le_of_ble_eq_true rfl) gd_Model_meet_132 (fun H locs hW => ?_)
          refine lv_aload_n hx hb gd_Model_meet_135 rfl (lv_at hl 2 rfl) ?_
          obtain ⟨q80, e81, h⟩ := gf_nn_ok h
          refine gw_getr (k := 29) (ty := 10) (ref := R_Model) C hW o_t0 (by decide) rfl gi_Model rfl (by decide) rfl rfl gk_618 gd_Model_meet_136 e81 ?_
          have o_q80 := hW.ref (d := 10) o_t0 e81 rfl
          refine lv_iload_n hx hb gd_Model_meet_139 rfl (lv_at hl 1 rfl) ?_
          obtain ⟨g82, h⟩ := gf_if_ok h
          refine gw_iald C hW o_q80 g82 gd_Model_meet_140 ?_
          refine lv_aload_n hx hb gd_Model_meet_141 rfl (lv_at hl 2 rfl) ?_
          obtain ⟨q83, e84, h⟩ := gf_nn_ok h
          refine gw_getr (k := 29) (ty := 10) (ref := R_Model) C hW o_t0 (by decide) rfl gi_Model rfl (by decide) rfl rfl gk_618 gd_Model_meet_142 e84 ?_
          have o_q83 := hW.ref (d := 10) o_t0 e84 rfl
          refine lv_iload hx hb gd_Model_meet_145 (lv_at hl 0 rfl) ?_
          obtain ⟨g85, h⟩ := gf_if_ok h
          refine gw_iald C hW o_q83 g85 gd_Model_meet_147 ?_
          refine lv_imul hx hb gd_Model_meet_148 ?_
          refine lv_if_ge (tgt := 162) hx hb gd_Model_meet_149 (by decide) (fun c86 => ?_) (fun c86 => ?_)
          · have h := gf_t c86 h
            refine lv_aload_n hx hb gd_Model_meet_162 rfl (lv_at hl 2 rfl) ?_
            refine lv_iconst (v := 4) hx hb gd_Model_meet_163 (by decide) ?_
            refine lv_iconst (v := 5) hx hb gd_Model_meet_164 (by decide) ?_
            obtain ⟨a89, u87, d88, h⟩ := gf_cl_ok h
            refine gw_callVi (K := R_Model) (As := [.int (4 : Int32), .int (5 : Int32)]) (rest := []) C hW (fun _ h => Or.inr h) hl.1 gm_Model_compareWide (gc_Model_compareWide l F o_t0 d88 _) gk_554 gk_555 gk_556 o_t0 (by decide) rfl rfl rfl ⟨Nat.le_of_ble_eq_true rfl, Nat.le_of_ble_eq_true rfl⟩ ⟨Nat.zero_le _, Nat.zero_le _⟩ rfl rfl (Nat.le_of_ble_eq_true rfl) gd_Model_meet_165 (fun H locs hW => ?_)
            refine lv_if_lt (tgt := 181) hx hb gd_Model_meet_168 (by decide) (fun c90 => ?_) (fun c90 => ?_)
            · have h := gf_t c90 h
              refine lv_aload_n hx hb gd_Model_meet_181 rfl (lv_at hl 2 rfl) ?_
              refine lv_iconst (v := 5) hx hb gd_Model_meet_182 (by decide) ?_
              refine lv_iconst (v := 4) hx hb gd_Model_meet_183 (by decide) ?_
              refine lv_iconst (v := 1) hx hb gd_Model_meet_184 (by decide) ?_
              obtain ⟨u91, d92, h⟩ := gf_bd_ok h
              refine gw_callVv (K := R_Model) (As := [.int (5 : Int32), .int (4 : Int32), .int (1 : Int32)]) (rest := []) C hW (fun _ h => Or.inr h) hl.1 gm_Model_addWide (gc_Model_addWide l F o_t0 d92 _) gk_557 gk_558 gk_559 o_t0 (by decide) rfl rfl rfl ⟨Nat.le_of_ble_eq_true rfl, Nat.le_of_ble_eq_true rfl⟩ ⟨Nat.zero_le _, Nat.zero_le _⟩ rfl rfl (Nat.le_of_ble_eq_true rfl) gd_Model_meet_185 (fun H locs hW => ?_)
              refine lv_aload_n hx hb gd_Model_meet_188 rfl (lv_at hl 2 rfl) ?_
              refine lv_iconst (v := 4) hx hb gd_Model_meet_189 (by decide) ?_
              refine lv_iconst (v := 5) hx hb gd_Model_meet_190 (by decide) ?_
              obtain ⟨u93, d94, h⟩ := gf_bd_ok h
              refine gw_callVv (K := R_Model) (As := [.int (4 : Int32), .int (5 : Int32)]) (rest := []) C hW (fun _ h => Or.inr h) hl.1 gm_Model_copyWide (gc_Model_copyWide l F o_t0 d94 _) gk_566 gk_567 gk_568 o_t0 (by decide) rfl rfl rfl ⟨Nat.le_of_ble_eq_true rfl, Nat.le_of_ble_eq_true rfl⟩ ⟨Nat.zero_le _, Nat.zero_le _⟩ rfl rfl (Nat.le_of_ble_eq_true rfl) gd_Model_meet_191 (fun H locs hW => ?_)
              exact gx_Model_meet_b194 F C hr hk  u93 t0 o_t0 hW (lv_sub hl [2] rfl) h
            · have h := gf_f c90 h
              refine lv_aload_n hx hb gd_Model_meet_171 rfl (lv_at hl 2 rfl) ?_
              refine lv_iconst (v := 4) hx hb gd_Model_meet_172 (by decide) ?_
              refine lv_iconst (v := 5) hx hb gd_Model_meet_173 (by decide) ?_
              refine lv_iconst (v := 1) hx hb gd_Model_meet_174 (by decide) ?_
              obtain ⟨u95, d96, h⟩ := gf_bd_ok h
              refine gw_callVv (K := R_Model) (As := [.int (4 : Int32), .int (5 : Int32), .int (1 : Int32)]) (rest := []) C hW (fun _ h => Or.inr h) hl.1 gm_Model_addWide (gc_Model_addWide l F o_t0 d96 _) gk_557 gk_558 gk_559 o_t0 (by decide) rfl rfl rfl ⟨Nat.le_of_ble_eq_true rfl, Nat.le_of_ble_eq_true rfl⟩ ⟨Nat.zero_le _, Nat.zero_le _⟩ rfl rfl (Nat.le_of_ble_eq_true rfl) gd_Model_meet_175 (fun H locs hW => ?_)
              refine lv_goto (tgt := 194) hx hb gd_Model_meet_178 (by decide) ?_
              exact gx_Model_meet_b194 F C hr hk  u95 t0 o_t0 hW (lv_sub hl [2] rfl) h
          · have h := gf_f c86 h
            refine lv_aload_n hx hb gd_Model_meet_152 rfl (lv_at hl 2 rfl) ?_
            refine lv_iconst (v := 4) hx hb gd_Model_meet_153 (by decide) ?_
            refine lv_iconst (v := 5) hx hb gd_Model_meet_154 (by decide) ?_
            refine lv_iconst (v := 0) hx hb gd_Model_meet_155 (by decide) ?_
            obtain ⟨u97, d98, h⟩ := gf_bd_ok h
            refine gw_callVv (K := R_Model) (As := [.int (4 : Int32), .int (5 : Int32), .int (0 : Int32)]) (rest := []) C hW (fun _ h => Or.inr h) hl.1 gm_Model_addWide (gc_Model_addWide l F o_t0 d98 _) gk_557 gk_558 gk_559 o_t0 (by decide) rfl rfl rfl ⟨Nat.le_of_ble_eq_true rfl, Nat.le_of_ble_eq_true rfl⟩ ⟨Nat.zero_le _, Nat.zero_le _⟩ rfl rfl (Nat.le_of_ble_eq_true rfl) gd_Model_meet_156 (fun H locs hW => ?_)
            refine lv_goto (tgt := 194) hx hb gd_Model_meet_159 (by decide) ?_
            exact gx_Model_meet_b194 F C hr hk  u97 t0 o_t0 hW (lv_sub hl [2] rfl) h
        · have h := gf_t c57 h
          exact gx_Model_meet_b69 F C hr hk  u36   hW (lv_sub hl [] rfl) h
    · have h := gf_t c39 h
      exact gx_Model_meet_b21 F C hr hk  u36 t0 o_t0 hW (lv_sub hl [0] rfl) h

set_option maxRecDepth 20000 in
theorem gc_Model_meet (l : Launch) {D : va_G} {cA : Nat → ClassId} {hs : Nat → Nat} {z : gw_Sh} (F : Nat) {u : gw_St} {r0 : (Int32 × gw_St)} {t0 : Nat} {x1 : Int32} {x2 : Int32} (o_t0 : gw_ok z t0 9) (h : gf_Model_meet F z u t0 x1 x2 = some r0) (sz : Nat) : gw_Mi l gy_Model_meet gb_Model_meet 5 (some .boolean) gr_Model_meet [.ref (hs t0), .int x1, .int x2] D cA hs z u sz r0 := by
  refine gw_enter (by decide) (Nat.le_of_ble_eq_true rfl) ?_
  intro p e s m below meth c ls hsz C hW hr hk _ hl
  subst hsz
  exact gx_Model_meet_b0 F C hr hk u t0 x1 x2 o_t0 hW (lv_sub hl [0, 1, 2] rfl) h
