-- GearDeskModel.setWide(IJ)V
theorem gk_534 : Cond.constantLong R_Model 267 65535 ∈ gt_T := gt_m7 (List.mem_of_getElem? (i := 141) rfl) rfl
theorem gk_535 : Cond.methodLink R_Model 263 gy_Model_clearWide ∈ gt_T := gt_m7 (List.mem_of_getElem? (i := 137) rfl) rfl
theorem gk_536 : Cond.instanceMethod gy_Model_clearWide ∈ gt_T := gt_m7 (List.mem_of_getElem? (i := 139) rfl) rfl
theorem gk_537 : Cond.selects R_Model gy_Model_clearWide gy_Model_clearWide ∈ gt_T := gt_p4 (List.mem_of_getElem? (i := 9) rfl) rfl
def gy_Model_setWide : MethodName := ⟨R_Model, "setWide", "(IJ)V"⟩
abbrev gb_Model_setWide : ByteArray := prog_11_method_47_code
theorem gk_538 : Cond.code gy_Model_setWide gb_Model_setWide 5 none ∈ gt_T := gt_m7 (List.mem_of_getElem? (i := 136) rfl) rfl
def gr_Model_setWide : Room := gw_rm 2 86
theorem gm_Model_setWide : gw_Mth gy_Model_setWide gb_Model_setWide 5 none 2 := ⟨gk_538, gk_377, ⟨by decide +kernel, by decide +kernel⟩, by decide +kernel⟩
theorem gd_Model_setWide_0 : decode gb_Model_setWide 0 = .ok (.aload_n 0, 1) := by decide +kernel
theorem gd_Model_setWide_1 : decode gb_Model_setWide 1 = .ok (.iload_n 1, 1) := by decide +kernel
theorem gd_Model_setWide_2 : decode gb_Model_setWide 2 = .ok (.invokevirtual 263, 3) := by decide +kernel
theorem gd_Model_setWide_5 : decode gb_Model_setWide 5 = .ok (.iconst 0, 1) := by decide +kernel
theorem gd_Model_setWide_6 : decode gb_Model_setWide 6 = .ok (.istore 4, 2) := by decide +kernel
theorem gd_Model_setWide_8 : decode gb_Model_setWide 8 = .ok (.iload 4, 2) := by decide +kernel
theorem gd_Model_setWide_10 : decode gb_Model_setWide 10 = .ok (.iconst 4, 1) := by decide +kernel
theorem gd_Model_setWide_11 : decode gb_Model_setWide 11 = .ok (.if_icmp .ge 33, 3) := by decide +kernel
theorem gd_Model_setWide_14 : decode gb_Model_setWide 14 = .ok (.aload_n 0, 1) := by decide +kernel
theorem gd_Model_setWide_15 : decode gb_Model_setWide 15 = .ok (.getfield 104, 3) := by decide +kernel
theorem gd_Model_setWide_18 : decode gb_Model_setWide 18 = .ok (.sipush 256, 3) := by decide +kernel
theorem gd_Model_setWide_21 : decode gb_Model_setWide 21 = .ok (.iload_n 1, 1) := by decide +kernel
theorem gd_Model_setWide_22 : decode gb_Model_setWide 22 = .ok (.imul, 1) := by decide +kernel
theorem gd_Model_setWide_23 : decode gb_Model_setWide 23 = .ok (.iload 4, 2) := by decide +kernel
theorem gd_Model_setWide_25 : decode gb_Model_setWide 25 = .ok (.iadd, 1) := by decide +kernel
theorem gd_Model_setWide_26 : decode gb_Model_setWide 26 = .ok (.lload_n 2, 1) := by decide +kernel
theorem gd_Model_setWide_27 : decode gb_Model_setWide 27 = .ok (.bipush 16, 2) := by decide +kernel
theorem gd_Model_setWide_29 : decode gb_Model_setWide 29 = .ok (.iload 4, 2) := by decide +kernel
theorem gd_Model_setWide_31 : decode gb_Model_setWide 31 = .ok (.imul, 1) := by decide +kernel
theorem gd_Model_setWide_32 : decode gb_Model_setWide 32 = .ok (.lushr, 1) := by decide +kernel
theorem gd_Model_setWide_33 : decode gb_Model_setWide 33 = .ok (.ldc2_w 267, 3) := by decide +kernel
theorem gd_Model_setWide_36 : decode gb_Model_setWide 36 = .ok (.land, 1) := by decide +kernel
theorem gd_Model_setWide_37 : decode gb_Model_setWide 37 = .ok (.lastore, 1) := by decide +kernel
theorem gd_Model_setWide_38 : decode gb_Model_setWide 38 = .ok (.iinc 4 1, 3) := by decide +kernel
theorem gd_Model_setWide_41 : decode gb_Model_setWide 41 = .ok (.goto (-33), 3) := by decide +kernel
theorem gd_Model_setWide_44 : decode gb_Model_setWide 44 = .ok (.return_, 1) := by decide +kernel
def gf_Model_setWide_S8 (F : Nat) (z : gw_Sh)  (rc_8 : gw_St → Nat → Int32 → Int64 → Int32 → Option gw_St) (u : gw_St) (t0 : Nat) (x1 : Int32) (y2 : Int64) (x4 : Int32) : Option gw_St :=
  if (4 : Int32) ≤ x4 then (some u) else (gf_nn (u.2.2 t0 48) fun q2 => if ((((256 : Int32) * x1) + x4) < 0 ∨ z.2.2 q2 ≤ ((((256 : Int32) * x1) + x4)).toNatClampNeg) then none else gf_nm (gw_wl u q2 ((((256 : Int32) * x1) + x4)).toNatClampNeg ((((y2).toUInt64 >>> ((((16 : Int32) * x4)).toInt64.toUInt64 &&& Int64.toUInt64 63)).toInt64) &&& (65535 : Int64))) fun u5 => gf_nm (x4 + 1) fun a7 => rc_8 u5 t0 x1 y2 a7)
def gf_Model_setWide_L8 (F : Nat) (z : gw_Sh)  : Nat → gw_St → Nat → Int32 → Int64 → Int32 → Option gw_St
  | 0 => fun _ _ _ _ _ => none
  | n + 1 => fun u t0 x1 y2 x4 => gf_Model_setWide_S8 F z  (gf_Model_setWide_L8 F z  n) u t0 x1 y2 x4
def gf_Model_setWide_b0 (F : Nat) (z : gw_Sh)  (u : gw_St) (t0 : Nat) (x1 : Int32) (y2 : Int64) : Option gw_St :=
  (gf_Model_clearWide F z u t0 x1).bind fun u9 => gf_Model_setWide_L8 F z  F u9 t0 x1 y2 0
def gf_Model_setWide (F : Nat) (z : gw_Sh) (u : gw_St) (t0 : Nat) (x1 : Int32) (y2 : Int64) : Option gw_St := gf_Model_setWide_b0 F z  u t0 x1 y2
set_option maxHeartbeats 4000000 in
set_option maxRecDepth 20000 in
theorem gx_Model_setWide_S8 {p : Program} {l : Launch} {e : Env} {s : State} {m : MethodId} {args : Array Value} {below : List Frame} {meth : Method} {c : Code} {D : va_G} {cA : Nat → ClassId} {hs : Nat → Nat} {z : gw_Sh} (F : Nat) {r0 : gw_St} (C : gw_Cx p s m args c gb_Model_setWide 5 R_Model D cA) (hr : meth.sig.returnType = none) (hk : meth.locks = false) {rc_8 : gw_St → Nat → Int32 → Int64 → Int32 → Option gw_St} (k_8 : ∀ (u : gw_St) (t0 : Nat) (x1 : Int32) (y2 : Int64) (x4 : Int32) (H : Heap) (locs : List Loc) (ls : Array Slot), gw_ok z t0 9 → gw_Wx D cA hs z s u H locs → lv_has ls 5 [(0, .ref (hs t0)), (1, .int x1), (2, .long y2), (4, .int x4)] → rc_8 u t0 x1 y2 x4 = some r0 → gw_Gv p l e gr_Model_setWide s m args below meth c D cA hs z r0 H locs ls 8 []) (u : gw_St) (t0 : Nat) (x1 : Int32) (y2 : Int64) (x4 : Int32) (o_t0 : gw_ok z t0 9) {H : Heap} {locs : List Loc} {ls : Array Slot} (hW : gw_Wx D cA hs z s u H locs) (hl : lv_has ls 5 [(0, .ref (hs t0)), (1, .int x1), (2, .long y2), (4, .int x4)]) (h : gf_Model_setWide_S8 F z  rc_8 u t0 x1 y2 x4 = some r0) : gw_Gv p l e gr_Model_setWide s m args below meth c D cA hs z r0 H locs ls 8 [] := by
  obtain ⟨hx, hb, hml, hown, hts, hK⟩ := id C
  unfold gf_Model_setWide_S8 at h
  refine lv_iload hx hb gd_Model_setWide_8 (lv_at hl 3 rfl) ?_
  refine lv_iconst (v := 4) hx hb gd_Model_setWide_10 (by decide) ?_
  refine lv_icmp_ge (tgt := 44) hx hb gd_Model_setWide_11 (by decide) (fun c1 => ?_) (fun c1 => ?_)
  · have h := gf_t c1 h
    obtain rfl := Option.some.inj h
    exact gw_vret C hW hr hk gd_Model_setWide_44
  · have h := gf_f c1 h
    refine lv_aload_n hx hb gd_Model_setWide_14 rfl (lv_at hl 0 rfl) ?_
    obtain ⟨q2, e3, h⟩ := gf_nn_ok h
    refine gw_getr (k := 48) (ty := 11) (ref := R_Model) C hW o_t0 (by decide) rfl gi_Model rfl (by decide) rfl rfl gk_526 gd_Model_setWide_15 e3 ?_
    have o_q2 := hW.ref (d := 11) o_t0 e3 rfl
    refine lv_sipush (v := 256) hx hb gd_Model_setWide_18 (by decide) ?_
    refine lv_iload_n hx hb gd_Model_setWide_21 rfl (lv_at hl 1 rfl) ?_
    refine lv_imul hx hb gd_Model_setWide_22 ?_
    refine lv_iload hx hb gd_Model_setWide_23 (lv_at hl 3 rfl) ?_
    refine lv_iadd hx hb gd_Model_setWide_25 ?_
    refine lv_lload_n hx hb gd_Model_setWide_26 rfl (lv_at hl 2 rfl) ?_
    refine lv_bipush (v := 16) hx hb gd_Model_setWide_27 (by decide) ?_
    refine lv_iload hx hb gd_Model_setWide_29 (lv_at hl 3 rfl) ?_
    refine lv_imul hx hb gd_Model_setWide_31 ?_
    refine lv_lushr hx hb gd_Model_setWide_32 rfl ?_
    refine lv_ldc2 (v := 65535) hx hb hown (hts _ gk_534) gd_Model_setWide_33 ?_
    refine lv_land hx hb gd_Model_setWide_36 ?_
    obtain ⟨g4, h⟩ := gf_if_ok h
    refine gw_last C hW o_q2 g4 gd_Model_setWide_37 (fun u5 H locs e6 hW => ?_)
    have h := gf_nm_ok e6 h
    obtain ⟨a7, e8⟩ : ∃ y : Int32, y = x4 + 1 := ⟨_, rfl⟩
    have h := gf_nm_ok e8 h
    refine lv_iinc (v := a7) (lv' := [(4, .int a7), (0, .ref (hs t0)), (1, .int x1), (2, .long y2)]) hx hb gd_Model_setWide_38 hl (k := 3) rfl (by rw [e8]; rfl) (by decide) rfl (fun ls hl => ?_)
    refine lv_goto (tgt := 8) hx hb gd_Model_setWide_41 (by decide) ?_
    exact k_8 u5 t0 x1 y2 a7 _ _ _ o_t0 hW (lv_sub hl [1, 2, 3, 0] rfl) h
set_option maxHeartbeats 4000000 in
set_option maxRecDepth 20000 in
theorem gx_Model_setWide_L8 {p : Program} {l : Launch} {e : Env} {s : State} {m : MethodId} {args : Array Value} {below : List Frame} {meth : Method} {c : Code} {D : va_G} {cA : Nat → ClassId} {hs : Nat → Nat} {z : gw_Sh} (F : Nat) {r0 : gw_St} (C : gw_Cx p s m args c gb_Model_setWide 5 R_Model D cA) (hr : meth.sig.returnType = none) (hk : meth.locks = false) : ∀ (n : Nat), ∀ (u : gw_St) (t0 : Nat) (x1 : Int32) (y2 : Int64) (x4 : Int32) (H : Heap) (locs : List Loc) (ls : Array Slot), gw_ok z t0 9 → gw_Wx D cA hs z s u H locs → lv_has ls 5 [(0, .ref (hs t0)), (1, .int x1), (2, .long y2), (4, .int x4)] → gf_Model_setWide_L8 F z  n u t0 x1 y2 x4 = some r0 → gw_Gv p l e gr_Model_setWide s m args below meth c D cA hs z r0 H locs ls 8 [] := by
  intro n
  induction n with
  | zero =>
    intro u t0 x1 y2 x4 H locs ls o_t0 hW hl h
    cases h
  | succ n ih =>
    intro u t0 x1 y2 x4 H locs ls o_t0 hW hl h
    exact gx_Model_setWide_S8 F C hr hk  ih u t0 x1 y2 x4 o_t0 hW hl h

set_option maxHeartbeats 4000000 in
set_option maxRecDepth 20000 in
theorem gx_Model_setWide_b0 {p : Program} {l : Launch} {e : Env} {s : State} {m : MethodId} {args : Array Value} {below : List Frame} {meth : Method} {c : Code} {D : va_G} {cA : Nat → ClassId} {hs : Nat → Nat} {z : gw_Sh} (F : Nat) {r0 : gw_St} (C : gw_Cx p s m args c gb_Model_setWide 5 R_Model D cA) (hr : meth.sig.returnType = none) (hk : meth.locks = false) (u : gw_St) (t0 : Nat) (x1 : Int32) (y2 : Int64) (o_t0 : gw_ok z t0 9) {H : Heap} {locs : List Loc} {ls : Array Slot} (hW : gw_Wx D cA hs z s u H locs) (hl : lv_has ls 5 [(0, .ref (hs t0)), (1, .int x1), (2, .long y2)]) (h : gf_Model_setWide_b0 F z   u t0 x1 y2 = some r0) : gw_Gv p l e gr_Model_setWide s m args below meth c D cA hs z r0 H locs ls 0 [] := by
  obtain ⟨hx, hb, hml, hown, hts, hK⟩ := id C
  unfold gf_Model_setWide_b0 at h
  refine lv_aload_n hx hb gd_Model_setWide_0 rfl (lv_at hl 0 rfl) ?_
  refine lv_iload_n hx hb gd_Model_setWide_1 rfl (lv_at hl 1 rfl) ?_
  obtain ⟨u9, d10, h⟩ := gf_bd_ok h
  refine gw_callVv (K := R_Model) (As := [.int x1]) (rest := []) C hW (fun _ h => Or.inr h) hl.1 gm_Model_clearWide (gc_Model_clearWide l F o_t0 d10 _) gk_535 gk_536 gk_537 o_t0 (by decide) rfl rfl rfl ⟨Nat.le_of_ble_eq_true rfl, Nat.le_of_ble_eq_true rfl⟩ ⟨Nat.zero_le _, Nat.zero_le _⟩ rfl rfl (Nat.le_of_ble_eq_true rfl) gd_Model_setWide_2 (fun H locs hW => ?_)
  refine lv_iconst (v := 0) hx hb gd_Model_setWide_5 (by decide) ?_
  refine lv_istore (lv' := [(4, .int 0), (0, .ref (hs t0)), (1, .int x1), (2, .long y2)]) hx hb gd_Model_setWide_6 hl (by decide) rfl (fun ls hl => ?_)
  exact gx_Model_setWide_L8 F C hr hk  F u9 t0 x1 y2 0 _ _ _ o_t0 hW (lv_sub hl [1, 2, 3, 0] rfl) h

set_option maxRecDepth 20000 in
theorem gc_Model_setWide (l : Launch) {D : va_G} {cA : Nat → ClassId} {hs : Nat → Nat} {z : gw_Sh} (F : Nat) {u : gw_St} {r0 : gw_St} {t0 : Nat} {x1 : Int32} {y2 : Int64} (o_t0 : gw_ok z t0 9) (h : gf_Model_setWide F z u t0 x1 y2 = some r0) (sz : Nat) : gw_Mv l gy_Model_setWide gb_Model_setWide 5 none gr_Model_setWide [.ref (hs t0), .int x1, .long y2] D cA hs z u sz r0 := by
  refine gw_enter (by decide) (Nat.le_of_ble_eq_true rfl) ?_
  intro p e s m below meth c ls hsz C hW hr hk _ hl
  subst hsz
  exact gx_Model_setWide_b0 F C hr hk u t0 x1 y2 o_t0 hW (lv_sub hl [0, 1, 2] rfl) h
-- GearDeskModel.compareWide(II)I
def gy_Model_compareWide : MethodName := ⟨R_Model, "compareWide", "(II)I"⟩
abbrev gb_Model_compareWide : ByteArray := prog_11_method_48_code
theorem gk_539 : Cond.code gy_Model_compareWide gb_Model_compareWide 4 (some .int) ∈ gt_T := gt_m7 (List.mem_of_getElem? (i := 182) rfl) rfl
def gr_Model_compareWide : Room := gw_rm 1 64
theorem gm_Model_compareWide : gw_Mth gy_Model_compareWide gb_Model_compareWide 4 (some .int) 2 := ⟨gk_539, gk_377, ⟨by decide +kernel, by decide +kernel⟩, by decide +kernel⟩
theorem gd_Model_compareWide_0 : decode gb_Model_compareWide 0 = .ok (.sipush 255, 3) := by decide +kernel
theorem gd_Model_compareWide_3 : decode gb_Model_compareWide 3 = .ok (.istore_n 3, 1) := by decide +kernel
theorem gd_Model_compareWide_4 : decode gb_Model_compareWide 4 = .ok (.iload_n 3, 1) := by decide +kernel
theorem gd_Model_compareWide_5 : decode gb_Model_compareWide 5 = .ok (.ifCond .lt 71, 3) := by decide +kernel
theorem gd_Model_compareWide_8 : decode gb_Model_compareWide 8 = .ok (.aload_n 0, 1) := by decide +kernel
theorem gd_Model_compareWide_9 : decode gb_Model_compareWide 9 = .ok (.getfield 104, 3) := by decide +kernel
theorem gd_Model_compareWide_12 : decode gb_Model_compareWide 12 = .ok (.sipush 256, 3) := by decide +kernel
theorem gd_Model_compareWide_15 : decode gb_Model_compareWide 15 = .ok (.iload_n 1, 1) := by decide +kernel
theorem gd_Model_compareWide_16 : decode gb_Model_compareWide 16 = .ok (.imul, 1) := by decide +kernel
theorem gd_Model_compareWide_17 : decode gb_Model_compareWide 17 = .ok (.iload_n 3, 1) := by decide +kernel
theorem gd_Model_compareWide_18 : decode gb_Model_compareWide 18 = .ok (.iadd, 1) := by decide +kernel
theorem gd_Model_compareWide_19 : decode gb_Model_compareWide 19 = .ok (.laload, 1) := by decide +kernel
theorem gd_Model_compareWide_20 : decode gb_Model_compareWide 20 = .ok (.aload_n 0, 1) := by decide +kernel
theorem gd_Model_compareWide_21 : decode gb_Model_compareWide 21 = .ok (.getfield 104, 3) := by decide +kernel
theorem gd_Model_compareWide_24 : decode gb_Model_compareWide 24 = .ok (.sipush 256, 3) := by decide +kernel
theorem gd_Model_compareWide_27 : decode gb_Model_compareWide 27 = .ok (.iload_n 2, 1) := by decide +kernel
theorem gd_Model_compareWide_28 : decode gb_Model_compareWide 28 = .ok (.imul, 1) := by decide +kernel
theorem gd_Model_compareWide_29 : decode gb_Model_compareWide 29 = .ok (.iload_n 3, 1) := by decide +kernel
theorem gd_Model_compareWide_30 : decode gb_Model_compareWide 30 = .ok (.iadd, 1) := by decide +kernel
theorem gd_Model_compareWide_31 : decode gb_Model_compareWide 31 = .ok (.laload, 1) := by decide +kernel
theorem gd_Model_compareWide_32 : decode gb_Model_compareWide 32 = .ok (.lcmp, 1) := by decide +kernel
theorem gd_Model_compareWide_33 : decode gb_Model_compareWide 33 = .ok (.ifCond .eq 37, 3) := by decide +kernel
theorem gd_Model_compareWide_36 : decode gb_Model_compareWide 36 = .ok (.aload_n 0, 1) := by decide +kernel
theorem gd_Model_compareWide_37 : decode gb_Model_compareWide 37 = .ok (.getfield 104, 3) := by decide +kernel
theorem gd_Model_compareWide_40 : decode gb_Model_compareWide 40 = .ok (.sipush 256, 3) := by decide +kernel
theorem gd_Model_compareWide_43 : decode gb_Model_compareWide 43 = .ok (.iload_n 1, 1) := by decide +kernel
theorem gd_Model_compareWide_44 : decode gb_Model_compareWide 44 = .ok (.imul, 1) := by decide +kernel
theorem gd_Model_compareWide_45 : decode gb_Model_compareWide 45 = .ok (.iload_n 3, 1) := by decide +kernel
theorem gd_Model_compareWide_46 : decode gb_Model_compareWide 46 = .ok (.iadd, 1) := by decide +kernel
theorem gd_Model_compareWide_47 : decode gb_Model_compareWide 47 = .ok (.laload, 1) := by decide +kernel
theorem gd_Model_compareWide_48 : decode gb_Model_compareWide 48 = .ok (.aload_n 0, 1) := by decide +kernel
theorem gd_Model_compareWide_49 : decode gb_Model_compareWide 49 = .ok (.getfield 104, 3) := by decide +kernel
theorem gd_Model_compareWide_52 : decode gb_Model_compareWide 52 = .ok (.sipush 256, 3) := by decide +kernel
theorem gd_Model_compareWide_55 : decode gb_Model_compareWide 55 = .ok (.iload_n 2, 1) := by decide +kernel
theorem gd_Model_compareWide_56 : decode gb_Model_compareWide 56 = .ok (.imul, 1) := by decide +kernel
theorem gd_Model_compareWide_57 : decode gb_Model_compareWide 57 = .ok (.iload_n 3, 1) := by decide +kernel
theorem gd_Model_compareWide_58 : decode gb_Model_compareWide 58 = .ok (.iadd, 1) := by decide +kernel
theorem gd_Model_compareWide_59 : decode gb_Model_compareWide 59 = .ok (.laload, 1) := by decide +kernel
theorem gd_Model_compareWide_60 : decode gb_Model_compareWide 60 = .ok (.lcmp, 1) := by decide +kernel
theorem gd_Model_compareWide_61 : decode gb_Model_compareWide 61 = .ok (.ifCond .ge 7, 3) := by decide +kernel
theorem gd_Model_compareWide_64 : decode gb_Model_compareWide 64 = .ok (.iconst (-1), 1) := by decide +kernel
theorem gd_Model_compareWide_65 : decode gb_Model_compareWide 65 = .ok (.goto 4, 3) := by decide +kernel
theorem gd_Model_compareWide_68 : decode gb_Model_compareWide 68 = .ok (.iconst 1, 1) := by decide +kernel
theorem gd_Model_compareWide_69 : decode gb_Model_compareWide 69 = .ok (.ireturn, 1) := by decide +kernel
theorem gd_Model_compareWide_70 : decode gb_Model_compareWide 70 = .ok (.iinc 3 (-1), 3) := by decide +kernel
theorem gd_Model_compareWide_73 : decode gb_Model_compareWide 73 = .ok (.goto (-69), 3) := by decide +kernel
theorem gd_Model_compareWide_76 : decode gb_Model_compareWide 76 = .ok (.iconst 0, 1) := by decide +kernel
theorem gd_Model_compareWide_77 : decode gb_Model_compareWide 77 = .ok (.ireturn, 1) := by decide +kernel
def gf_Model_compareWide_b69 (F : Nat) (z : gw_Sh)  (u : gw_St) (sx0 : Int32) : Option (Int32 × gw_St) :=
  some (sx0, u)
def gf_Model_compareWide_S4 (F : Nat) (z : gw_Sh)  (rc_4 : gw_St → Nat → Int32 → Int32 → Int32 → Option (Int32 × gw_St)) (u : gw_St) (t0 : Nat) (x1 : Int32) (x2 : Int32) (x3 : Int32) : Option (Int32 × gw_St) :=
  if x3 < 0 then (some ((0 : Int32), u)) else (gf_nn (u.2.2 t0 48) fun q2 => if ((((256 : Int32) * x1) + x3) < 0 ∨ z.2.2 q2 ≤ ((((256 : Int32) * x1) + x3)).toNatClampNeg) then none else gf_nn (u.2.2 t0 48) fun q5 => if ((((256 : Int32) * x2) + x3) < 0 ∨ z.2.2 q5 ≤ ((((256 : Int32) * x2) + x3)).toNatClampNeg) then none else if (lg_cmp (u.2.1 q2 ((((256 : Int32) * x1) + x3)).toNatClampNeg) (u.2.1 q5 ((((256 : Int32) * x2) + x3)).toNatClampNeg)) = 0 then (gf_nm (x3 + (-1)) fun a9 => rc_4 u t0 x1 x2 a9) else (gf_nn (u.2.2 t0 48) fun q11 => if ((((256 : Int32) * x1) + x3) < 0 ∨ z.2.2 q11 ≤ ((((256 : Int32) * x1) + x3)).toNatClampNeg) then none else gf_nn (u.2.2 t0 48) fun q14 => if ((((256 : Int32) * x2) + x3) < 0 ∨ z.2.2 q14 ≤ ((((256 : Int32) * x2) + x3)).toNatClampNeg) then none else if 0 ≤ (lg_cmp (u.2.1 q11 ((((256 : Int32) * x1) + x3)).toNatClampNeg) (u.2.1 q14 ((((256 : Int32) * x2) + x3)).toNatClampNeg)) then (gf_Model_compareWide_b69 F z  u 1) else (gf_Model_compareWide_b69 F z  u (-1))))
def gf_Model_compareWide_L4 (F : Nat) (z : gw_Sh)  : Nat → gw_St → Nat → Int32 → Int32 → Int32 → Option (Int32 × gw_St)
  | 0 => fun _ _ _ _ _ => none
  | n + 1 => fun u t0 x1 x2 x3 => gf_Model_compareWide_S4 F z  (gf_Model_compareWide_L4 F z  n) u t0 x1 x2 x3
def gf_Model_compareWide_b0 (F : Nat) (z : gw_Sh)  (u : gw_St) (t0 : Nat) (x1 : Int32) (x2 : Int32) : Option (Int32 × gw_St) :=
  gf_Model_compareWide_L4 F z  F u t0 x1 x2 255
def gf_Model_compareWide (F : Nat) (z : gw_Sh) (u : gw_St) (t0 : Nat) (x1 : Int32) (x2 : Int32) : Option (Int32 × gw_St) := gf_Model_compareWide_b0 F z  u t0 x1 x2
set_option maxHeartbeats 4000000 in
set_option maxRecDepth 20000 in
theorem gx_Model_compareWide_b69 {p : Program} {l : Launch} {e : Env} {s : State} {m : MethodId} {args : Array Value} {below : List Frame} {meth : Method} {c : Code} {D : va_G} {cA : Nat → ClassId} {hs : Nat → Nat} {z : gw_Sh} (F : Nat) {r0 : (Int32 × gw_St)} (C : gw_Cx p s m args c gb_Model_compareWide 4 R_Model D cA) (hr : meth.sig.returnType = (some .int)) (hk : meth.locks = false) (u : gw_St) (sx0 : Int32)  {H : Heap} {locs : List Loc} {ls : Array Slot} (hW : gw_Wx D cA hs z s u H locs) (hl : lv_has ls 4 []) (h : gf_Model_compareWide_b69 F z   u sx0 = some r0) : gw_Gi p l e gr_Model_compareWide s m args below meth c D cA hs z r0 H locs ls 69 [.int sx0] := by
  obtain ⟨hx, hb, hml, hown, hts, hK⟩ := id C
  unfold gf_Model_compareWide_b69 at h
  obtain rfl := Option.some.inj h
  exact gw_iret C hW hr hk gd_Model_compareWide_69

set_option maxHeartbeats 4000000 in
set_option maxRecDepth 20000 in
theorem gx_Model_compareWide_S4 {p : Program} {l : Launch} {e : Env} {s : State} {m : MethodId} {args : Array Value} {below : List Frame} {meth : Method} {c : Code} {D : va_G} {cA : Nat → ClassId} {hs : Nat → Nat} {z : gw_Sh} (F : Nat) {r0 : (Int32 × gw_St)} (C : gw_Cx p s m args c gb_Model_compareWide 4 R_Model D cA) (hr : meth.sig.returnType = (some .int)) (hk : meth.locks = false) {rc_4 : gw_St → Nat → Int32 → Int32 → Int32 → Option (Int32 × gw_St)} (k_4 : ∀ (u : gw_St) (t0 : Nat) (x1 : Int32) (x2 : Int32) (x3 : Int32) (H : Heap) (locs : List Loc) (ls : Array Slot), gw_ok z t0 9 → gw_Wx D cA hs z s u H locs → lv_has ls 4 [(0, .ref (hs t0)), (1, .int x1), (2, .int x2), (3, .int x3)] → rc_4 u t0 x1 x2 x3 = some r0 → gw_Gi p l e gr_Model_compareWide s m args below meth c D cA hs z r0 H locs ls 4 []) (u : gw_St) (t0 : Nat) (x1 : Int32) (x2 : Int32) (x3 : Int32) (o_t0 : gw_ok z t0 9) {H : Heap} {locs : List Loc} {ls : Array Slot} (hW : gw_Wx D cA hs z s u H locs) (hl : lv_has ls 4 [(0, .ref (hs t0)), (1, .int x1), (2, .int x2), (3, .int x3)]) (h : gf_Model_compareWide_S4 F z  rc_4 u t0 x1 x2 x3 = some r0) : gw_Gi p l e gr_Model_compareWide s m args below meth c D cA hs z r0 H locs ls 4 [] := by
  obtain ⟨hx, hb, hml, hown, hts, hK⟩ := id C
  unfold gf_Model_compareWide_S4 at h
  refine lv_iload_n hx hb gd_Model_compareWide_4 rfl (lv_at hl 3 rfl) ?_
  refine lv_if_lt (tgt := 76) hx hb gd_Model_compareWide_5 (by decide) (fun c1 => ?_) (fun c1 => ?_)
  · have h := gf_t c1 h
    refine lv_iconst (v := 0) hx hb gd_Model_compareWide_76 (by decide) ?_
    obtain rfl := Option.some.inj h
    exact gw_iret C hW hr hk gd_Model_compareWide_77
  · have h := gf_f c1 h
    refine lv_aload_n hx hb gd_Model_compareWide_8 rfl (lv_at hl 0 rfl) ?_
    obtain ⟨q2, e3, h⟩ := gf_nn_ok h
    refine gw_getr (k := 48) (ty := 11) (ref := R_Model) C hW o_t0 (by decide) rfl gi_Model rfl (by decide) rfl rfl gk_526 gd_Model_compareWide_9 e3 ?_
    have o_q2 := hW.ref (d := 11) o_t0 e3 rfl
    refine lv_sipush (v := 256) hx hb gd_Model_compareWide_12 (by decide) ?_
    refine lv_iload_n hx hb gd_Model_compareWide_15 rfl (lv_at hl 1 rfl) ?_
    refine lv_imul hx hb gd_Model_compareWide_16 ?_
    refine lv_iload_n hx hb gd_Model_compareWide_17 rfl (lv_at hl 3 rfl) ?_
    refine lv_iadd hx hb gd_Model_compareWide_18 ?_
    obtain ⟨g4, h⟩ := gf_if_ok h
    refine gw_lald C hW o_q2 g4 gd_Model_compareWide_19 ?_
    refine lv_aload_n hx hb gd_Model_compareWide_20 rfl (lv_at hl 0 rfl) ?_
    obtain ⟨q5, e6, h⟩ := gf_nn_ok h
    refine gw_getr (k := 48) (ty := 11) (ref := R_Model) C hW o_t0 (by decide) rfl gi_Model rfl (by decide) rfl rfl gk_526 gd_Model_compareWide_21 e6 ?_
    have o_q5 := hW.ref (d := 11) o_t0 e6 rfl
    refine lv_sipush (v := 256) hx hb gd_Model_compareWide_24 (by decide) ?_
    refine lv_iload_n hx hb gd_Model_compareWide_27 rfl (lv_at hl 2 rfl) ?_
    refine lv_imul hx hb gd_Model_compareWide_28 ?_
    refine lv_iload_n hx hb gd_Model_compareWide_29 rfl (lv_at hl 3 rfl) ?_
    refine lv_iadd hx hb gd_Model_compareWide_30 ?_
    obtain ⟨g7, h⟩ := gf_if_ok h
    refine gw_lald C hW o_q5 g7 gd_Model_compareWide_31 ?_
    refine W.lcmp hx hb gd_Model_compareWide_32 ?_
    refine lv_if_eq (tgt := 70) hx hb gd_Model_compareWide_33 (by decide) (fun c8 => ?_) (fun c8 => ?_)
    · have h := gf_t c8 h
      obtain ⟨a9, e10⟩ : ∃ y : Int32, y = x3 + (-1) := ⟨_, rfl⟩
      have h := gf_nm_ok e10 h
      refine lv_iinc (v := a9) (lv' := [(3, .int a9), (0, .ref (hs t0)), (1, .int x1), (2, .int x2)]) hx hb gd_Model_compareWide_70 hl (k := 3) rfl (by rw [e10]; rfl) (by decide) rfl (fun ls hl => ?_)
      refine lv_goto (tgt := 4) hx hb gd_Model_compareWide_73 (by decide) ?_
      exact k_4 u t0 x1 x2 a9 _ _ _ o_t0 hW (lv_sub hl [1, 2, 3, 0] rfl) h
    · have h := gf_f c8 h
      refine lv_aload_n hx hb gd_Model_compareWide_36 rfl (lv_at hl 0 rfl) ?_
      obtain ⟨q11, e12, h⟩ := gf_nn_ok h
      refine gw_getr (k := 48) (ty := 11) (ref := R_Model) C hW o_t0 (by decide) rfl gi_Model rfl (by decide) rfl rfl gk_526 gd_Model_compareWide_37 e12 ?_
      have o_q11 := hW.ref (d := 11) o_t0 e12 rfl
      refine lv_sipush (v := 256) hx hb gd_Model_compareWide_40 (by decide) ?_
      refine lv_iload_n hx hb gd_Model_compareWide_43 rfl (lv_at hl 1 rfl) ?_
      refine lv_imul hx hb gd_Model_compareWide_44 ?_
      refine lv_iload_n hx hb gd_Model_compareWide_45 rfl (lv_at hl 3 rfl) ?_
      refine lv_iadd hx hb gd_Model_compareWide_46 ?_
      obtain ⟨g13, h⟩ := gf_if_ok h
      refine gw_lald C hW o_q11 g13 gd_Model_compareWide_47 ?_
      refine lv_aload_n hx hb gd_Model_compareWide_48 rfl (lv_at hl 0 rfl) ?_
      obtain ⟨q14, e15, h⟩ := gf_nn_ok h
      refine gw_getr (k := 48) (ty := 11) (ref := R_Model) C hW o_t0 (by decide) rfl gi_Model rfl (by decide) rfl rfl gk_526 gd_Model_compareWide_49 e15 ?_
      have o_q14 := hW.ref (d := 11) o_t0 e15 rfl
      refine lv_sipush (v := 256) hx hb gd_Model_compareWide_52 (by decide) ?_
      refine lv_iload_n hx hb gd_Model_compareWide_55 rfl (lv_at hl 2 rfl) ?_
      refine lv_imul hx hb gd_Model_compareWide_56 ?_
      refine lv_iload_n hx hb gd_Model_compareWide_57 rfl (lv_at hl 3 rfl) ?_
      refine lv_iadd hx hb gd_Model_compareWide_58 ?_
      obtain ⟨g16, h⟩ := gf_if_ok h
      refine gw_lald C hW o_q14 g16 gd_Model_compareWide_59 ?_
      refine W.lcmp hx hb gd_Model_compareWide_60 ?_
      refine lv_if_ge (tgt := 68) hx hb gd_Model_compareWide_61 (by decide) (fun c17 => ?_) (fun c17 => ?_)
      · have h := gf_t c17 h
        refine lv_iconst (v := 1) hx hb gd_Model_compareWide_68 (by decide) ?_
        exact gx_Model_compareWide_b69 F C hr hk  u 1  hW (lv_sub hl [] rfl) h
      · have h := gf_f c17 h
        refine lv_iconst (v := (-1)) hx hb gd_Model_compareWide_64 (by decide) ?_
        refine lv_goto (tgt := 69) hx hb gd_Model_compareWide_65 (by decide) ?_
        exact gx_Model_compareWide_b69 F C hr hk  u (-1)  hW (lv_sub hl [] rfl) h
set_option maxHeartbeats 4000000 in
set_option maxRecDepth 20000 in
theorem gx_Model_compareWide_L4 {p : Program} {l : Launch} {e : Env} {s : State} {m : MethodId} {args : Array Value} {below : List Frame} {meth : Method} {c : Code} {D : va_G} {cA : Nat → ClassId} {hs : Nat → Nat} {z : gw_Sh} (F : Nat) {r0 : (Int32 × gw_St)} (C : gw_Cx p s m args c gb_Model_compareWide 4 R_Model D cA) (hr : meth.sig.returnType = (some .int)) (hk : meth.locks = false) : ∀ (n : Nat), ∀ (u : gw_St) (t0 : Nat) (x1 : Int32) (x2 : Int32) (x3 : Int32) (H : Heap) (locs : List Loc) (ls : Array Slot), gw_ok z t0 9 → gw_Wx D cA hs z s u H locs → lv_has ls 4 [(0, .ref (hs t0)), (1, .int x1), (2, .int x2), (3, .int x3)] → gf_Model_compareWide_L4 F z  n u t0 x1 x2 x3 = some r0 → gw_Gi p l e gr_Model_compareWide s m args below meth c D cA hs z r0 H locs ls 4 [] := by
  intro n
  induction n with
  | zero =>
    intro u t0 x1 x2 x3 H locs ls o_t0 hW hl h
    cases h
  | succ n ih =>
    intro u t0 x1 x2 x3 H locs ls o_t0 hW hl h
    exact gx_Model_compareWide_S4 F C hr hk  ih u t0 x1 x2 x3 o_t0 hW hl h

set_option maxHeartbeats 4000000 in
set_option maxRecDepth 20000 in
theorem gx_Model_compareWide_b0 {p : Program} {l : Launch} {e : Env} {s : State} {m : MethodId} {args : Array Value} {below : List Frame} {meth : Method} {c : Code} {D : va_G} {cA : Nat → ClassId} {hs : Nat → Nat} {z : gw_Sh} (F : Nat) {r0 : (Int32 × gw_St)} (C : gw_Cx p s m args c gb_Model_compareWide 4 R_Model D cA) (hr : meth.sig.returnType = (some .int)) (hk : meth.locks = false) (u : gw_St) (t0 : Nat) (x1 : Int32) (x2 : Int32) (o_t0 : gw_ok z t0 9) {H : Heap} {locs : List Loc} {ls : Array Slot} (hW : gw_Wx D cA hs z s u H locs) (hl : lv_has ls 4 [(0, .ref (hs t0)), (1, .int x1), (2, .int x2)]) (h : gf_Model_compareWide_b0 F z   u t0 x1 x2 = some r0) : gw_Gi p l e gr_Model_compareWide s m args below meth c D cA hs z r0 H locs ls 0 [] := by
  obtain ⟨hx, hb, hml, hown, hts, hK⟩ := id C
  unfold gf_Model_compareWide_b0 at h
  refine lv_sipush (v := 255) hx hb gd_Model_compareWide_0 (by decide) ?_
  refine lv_istore_n (lv' := [(3, .int 255), (0, .ref (hs t0)), (1, .int x1), (2, .int x2)]) hx hb gd_Model_compareWide_3 rfl hl (by decide) rfl (fun ls hl => ?_)
  exact gx_Model_compareWide_L4 F C hr hk  F u t0 x1 x2 255 _ _ _ o_t0 hW (lv_sub hl [1, 2, 3, 0] rfl) h

set_option maxRecDepth 20000 in
theorem gc_Model_compareWide (l : Launch) {D : va_G} {cA : Nat → ClassId} {hs : Nat → Nat} {z : gw_Sh} (F : Nat) {u : gw_St} {r0 : (Int32 × gw_St)} {t0 : Nat} {x1 : Int32} {x2 : Int32} (o_t0 : gw_ok z t0 9) (h : gf_Model_compareWide F z u t0 x1 x2 = some r0) (sz : Nat) : gw_Mi l gy_Model_compareWide gb_Model_compareWide 4 (some .int) gr_Model_compareWide [.ref (hs t0), .int x1, .int x2] D cA hs z u sz r0 := by
  refine gw_enter (by decide) (Nat.le_of_ble_eq_true rfl) ?_
  intro p e s m below meth c ls hsz C hW hr hk _ hl
  subst hsz
  exact gx_Model_compareWide_b0 F C hr hk u t0 x1 x2 o_t0 hW (lv_sub hl [0, 1, 2] rfl) h
-- GearDeskModel.settle(I)V
def gy_Model_settle : MethodName := ⟨R_Model, "settle", "(I)V"⟩
abbrev gb_Model_settle : ByteArray := prog_11_method_49_code
theorem gk_540 : Cond.code gy_Model_settle gb_Model_settle 7 none ∈ gt_T := gt_m7 (List.mem_of_getElem? (i := 162) rfl) rfl
def gr_Model_settle : Room := gw_rm 1 64
theorem gm_Model_settle : gw_Mth gy_Model_settle gb_Model_settle 7 none 1 := ⟨gk_540, gk_377, ⟨by decide +kernel, by decide +kernel⟩, by decide +kernel⟩
theorem gd_Model_settle_0 : decode gb_Model_settle 0 = .ok (.lconst 0, 1) := by decide +kernel
theorem gd_Model_settle_1 : decode gb_Model_settle 1 = .ok (.lstore_n 2, 1) := by decide +kernel
theorem gd_Model_settle_2 : decode gb_Model_settle 2 = .ok (.sipush 256, 3) := by decide +kernel
theorem gd_Model_settle_5 : decode gb_Model_settle 5 = .ok (.iload_n 1, 1) := by decide +kernel
theorem gd_Model_settle_6 : decode gb_Model_settle 6 = .ok (.imul, 1) := by decide +kernel
theorem gd_Model_settle_7 : decode gb_Model_settle 7 = .ok (.istore 4, 2) := by decide +kernel
theorem gd_Model_settle_9 : decode gb_Model_settle 9 = .ok (.iload 4, 2) := by decide +kernel
theorem gd_Model_settle_11 : decode gb_Model_settle 11 = .ok (.sipush 256, 3) := by decide +kernel
theorem gd_Model_settle_14 : decode gb_Model_settle 14 = .ok (.iload_n 1, 1) := by decide +kernel
theorem gd_Model_settle_15 : decode gb_Model_settle 15 = .ok (.imul, 1) := by decide +kernel
theorem gd_Model_settle_16 : decode gb_Model_settle 16 = .ok (.sipush 256, 3) := by decide +kernel
theorem gd_Model_settle_19 : decode gb_Model_settle 19 = .ok (.iadd, 1) := by decide +kernel
theorem gd_Model_settle_20 : decode gb_Model_settle 20 = .ok (.if_icmp .ge 39, 3) := by decide +kernel
theorem gd_Model_settle_23 : decode gb_Model_settle 23 = .ok (.aload_n 0, 1) := by decide +kernel
theorem gd_Model_settle_24 : decode gb_Model_settle 24 = .ok (.getfield 104, 3) := by decide +kernel
theorem gd_Model_settle_27 : decode gb_Model_settle 27 = .ok (.iload 4, 2) := by decide +kernel
theorem gd_Model_settle_29 : decode gb_Model_settle 29 = .ok (.laload, 1) := by decide +kernel
theorem gd_Model_settle_30 : decode gb_Model_settle 30 = .ok (.lload_n 2, 1) := by decide +kernel
theorem gd_Model_settle_31 : decode gb_Model_settle 31 = .ok (.ladd, 1) := by decide +kernel
theorem gd_Model_settle_32 : decode gb_Model_settle 32 = .ok (.lstore 5, 2) := by decide +kernel
theorem gd_Model_settle_34 : decode gb_Model_settle 34 = .ok (.aload_n 0, 1) := by decide +kernel
theorem gd_Model_settle_35 : decode gb_Model_settle 35 = .ok (.getfield 104, 3) := by decide +kernel
theorem gd_Model_settle_38 : decode gb_Model_settle 38 = .ok (.iload 4, 2) := by decide +kernel
theorem gd_Model_settle_40 : decode gb_Model_settle 40 = .ok (.lload 5, 2) := by decide +kernel
theorem gd_Model_settle_42 : decode gb_Model_settle 42 = .ok (.ldc2_w 267, 3) := by decide +kernel
theorem gd_Model_settle_45 : decode gb_Model_settle 45 = .ok (.land, 1) := by decide +kernel
theorem gd_Model_settle_46 : decode gb_Model_settle 46 = .ok (.lastore, 1) := by decide +kernel
theorem gd_Model_settle_47 : decode gb_Model_settle 47 = .ok (.lload 5, 2) := by decide +kernel
theorem gd_Model_settle_49 : decode gb_Model_settle 49 = .ok (.bipush 16, 2) := by decide +kernel
theorem gd_Model_settle_51 : decode gb_Model_settle 51 = .ok (.lshr, 1) := by decide +kernel
theorem gd_Model_settle_52 : decode gb_Model_settle 52 = .ok (.lstore_n 2, 1) := by decide +kernel
theorem gd_Model_settle_53 : decode gb_Model_settle 53 = .ok (.iinc 4 1, 3) := by decide +kernel
theorem gd_Model_settle_56 : decode gb_Model_settle 56 = .ok (.goto (-47), 3) := by decide +kernel
theorem gd_Model_settle_59 : decode gb_Model_settle 59 = .ok (.return_, 1) := by decide +kernel
def gf_Model_settle_S9 (F : Nat) (z : gw_Sh)  (rc_9 : gw_St → Nat → Int32 → Int64 → Int32 → Option gw_St) (u : gw_St) (t0 : Nat) (x1 : Int32) (y2 : Int64) (x4 : Int32) : Option gw_St :=
  if (((256 : Int32) * x1) + (256 : Int32)) ≤ x4 then (some u) else (gf_nn (u.2.2 t0 48) fun q2 => if (x4 < 0 ∨ z.2.2 q2 ≤ (x4).toNatClampNeg) then none else gf_nm ((u.2.1 q2 (x4).toNatClampNeg) + y2) fun a5 => gf_nn (u.2.2 t0 48) fun q7 => if (x4 < 0 ∨ z.2.2 q7 ≤ (x4).toNatClampNeg) then none else gf_nm (gw_wl u q7 (x4).toNatClampNeg (a5 &&& (65535 : Int64))) fun u10 => gf_nm (a5 >>> (((16 : Int32)).toInt64 &&& 63)) fun a12 => gf_nm (x4 + 1) fun a14 => rc_9 u10 t0 x1 a12 a14)
def gf_Model_settle_L9 (F : Nat) (z : gw_Sh)  : Nat → gw_St → Nat → Int32 → Int64 → Int32 → Option gw_St
  | 0 => fun _ _ _ _ _ => none
  | n + 1 => fun u t0 x1 y2 x4 => gf_Model_settle_S9 F z  (gf_Model_settle_L9 F z  n) u t0 x1 y2 x4
def gf_Model_settle_b0 (F : Nat) (z : gw_Sh)  (u : gw_St) (t0 : Nat) (x1 : Int32) : Option gw_St :=
  gf_nm ((256 : Int32) * x1) fun a16 => gf_Model_settle_L9 F z  F u t0 x1 0 a16
def gf_Model_settle (F : Nat) (z : gw_Sh) (u : gw_St) (t0 : Nat) (x1 : Int32) : Option gw_St := gf_Model_settle_b0 F z  u t0 x1
set_option maxHeartbeats 4000000 in
set_option maxRecDepth 20000 in
theorem gx_Model_settle_S9 {p : Program} {l : Launch} {e : Env} {s : State} {m : MethodId} {args : Array Value} {below : List Frame} {meth : Method} {c : Code} {D : va_G} {cA : Nat → ClassId} {hs : Nat → Nat} {z : gw_Sh} (F : Nat) {r0 : gw_St} (C : gw_Cx p s m args c gb_Model_settle 7 R_Model D cA) (hr : meth.sig.returnType = none) (hk : meth.locks = false) {rc_9 : gw_St → Nat → Int32 → Int64 → Int32 → Option gw_St} (k_9 : ∀ (u : gw_St) (t0 : Nat) (x1 : Int32) (y2 : Int64) (x4 : Int32) (H : Heap) (locs : List Loc) (ls : Array Slot), gw_ok z t0 9 → gw_Wx D cA hs z s u H locs → lv_has ls 7 [(0, .ref (hs t0)), (1, .int x1), (2, .long y2), (4, .int x4)] → rc_9 u t0 x1 y2 x4 = some r0 → gw_Gv p l e gr_Model_settle s m args below meth c D cA hs z r0 H locs ls 9 []) (u : gw_St) (t0 : Nat) (x1 : Int32) (y2 : Int64) (x4 : Int32) (o_t0 : gw_ok z t0 9) {H : Heap} {locs : List Loc} {ls : Array Slot} (hW : gw_Wx D cA hs z s u H locs) (hl : lv_has ls 7 [(0, .ref (hs t0)), (1, .int x1), (2, .long y2), (4, .int x4)]) (h : gf_Model_settle_S9 F z  rc_9 u t0 x1 y2 x4 = some r0) : gw_Gv p l e gr_Model_settle s m args below meth c D cA hs z r0 H locs ls 9 [] := by
  obtain ⟨hx, hb, hml, hown, hts, hK⟩ := id C
  unfold gf_Model_settle_S9 at h
  refine lv_iload hx hb gd_Model_settle_9 (lv_at hl 3 rfl) ?_
  refine lv_sipush (v := 256) hx hb gd_Model_settle_11 (by decide) ?_
  refine lv_iload_n hx hb gd_Model_settle_14 rfl (lv_at hl 1 rfl) ?_
  refine lv_imul hx hb gd_Model_settle_15 ?_
  refine lv_sipush (v := 256) hx hb gd_Model_settle_16 (by decide) ?_
  refine lv_iadd hx hb gd_Model_settle_19 ?_
  refine lv_icmp_ge (tgt := 59) hx hb gd_Model_settle_20 (by decide) (fun c1 => ?_) (fun c1 => ?_)
  · have h := gf_t c1 h
    obtain rfl := Option.some.inj h
    exact gw_vret C hW hr hk gd_Model_settle_59
  · have h := gf_f c1 h
    refine lv_aload_n hx hb gd_Model_settle_23 rfl (lv_at hl 0 rfl) ?_
    obtain ⟨q2, e3, h⟩ := gf_nn_ok h
    refine gw_getr (k := 48) (ty := 11) (ref := R_Model) C hW o_t0 (by decide) rfl gi_Model rfl (by decide) rfl rfl gk_526 gd_Model_settle_24 e3 ?_
    have o_q2 := hW.ref (d := 11) o_t0 e3 rfl
    refine lv_iload hx hb gd_Model_settle_27 (lv_at hl 3 rfl) ?_
    obtain ⟨g4, h⟩ := gf_if_ok h
    refine gw_lald C hW o_q2 g4 gd_Model_settle_29 ?_
    refine lv_lload_n hx hb gd_Model_settle_30 rfl (lv_at hl 2 rfl) ?_
    refine lv_ladd hx hb gd_Model_settle_31 ?_
    refine lv_topl (fun a5 e6 => ?_)
    have h := gf_nm_ok e6 h
    refine lv_lstore (lv' := [(5, .long a5), (0, .ref (hs t0)), (1, .int x1), (2, .long y2), (4, .int x4)]) hx hb gd_Model_settle_32 hl (by decide) rfl (fun ls hl => ?_)
    refine lv_aload_n hx hb gd_Model_settle_34 rfl (lv_at hl 1 rfl) ?_
    obtain ⟨q7, e8, h⟩ := gf_nn_ok h
    refine gw_getr (k := 48) (ty := 11) (ref := R_Model) C hW o_t0 (by decide) rfl gi_Model rfl (by decide) rfl rfl gk_526 gd_Model_settle_35 e8 ?_
    have o_q7 := hW.ref (d := 11) o_t0 e8 rfl
    refine lv_iload hx hb gd_Model_settle_38 (lv_at hl 4 rfl) ?_
    refine lv_lload hx hb gd_Model_settle_40 (lv_at hl 0 rfl) ?_
    refine lv_ldc2 (v := 65535) hx hb hown (hts _ gk_534) gd_Model_settle_42 ?_
    refine lv_land hx hb gd_Model_settle_45 ?_
    obtain ⟨g9, h⟩ := gf_if_ok h
    refine gw_last C hW o_q7 g9 gd_Model_settle_46 (fun u10 H locs e11 hW => ?_)
    have h := gf_nm_ok e11 h
    refine lv_lload hx hb gd_Model_settle_47 (lv_at hl 0 rfl) ?_
    refine lv_bipush (v := 16) hx hb gd_Model_settle_49 (by decide) ?_
    refine lv_lshr hx hb gd_Model_settle_51 rfl ?_
    refine lv_topl (fun a12 e13 => ?_)
    have h := gf_nm_ok e13 h
    refine lv_lstore_n (lv' := [(2, .long a12), (5, .long a5), (0, .ref (hs t0)), (1, .int x1), (4, .int x4)]) hx hb gd_Model_settle_52 rfl hl (by decide) rfl (fun ls hl => ?_)
    obtain ⟨a14, e15⟩ : ∃ y : Int32, y = x4 + 1 := ⟨_, rfl⟩
    have h := gf_nm_ok e15 h
    refine lv_iinc (v := a14) (lv' := [(4, .int a14), (2, .long a12), (5, .long a5), (0, .ref (hs t0)), (1, .int x1)]) hx hb gd_Model_settle_53 hl (k := 4) rfl (by rw [e15]; rfl) (by decide) rfl (fun ls hl => ?_)
    refine lv_goto (tgt := 9) hx hb gd_Model_settle_56 (by decide) ?_
    exact k_9 u10 t0 x1 a12 a14 _ _ _ o_t0 hW (lv_sub hl [3, 4, 1, 0] rfl) h
set_option maxHeartbeats 4000000 in
set_option maxRecDepth 20000 in
theorem gx_Model_settle_L9 {p : Program} {l : Launch} {e : Env} {s : State} {m : MethodId} {args : Array Value} {below : List Frame} {meth : Method} {c : Code} {D : va_G} {cA : Nat → ClassId} {hs : Nat → Nat} {z : gw_Sh} (F : Nat) {r0 : gw_St} (C : gw_Cx p s m args c gb_Model_settle 7 R_Model D cA) (hr : meth.sig.returnType = none) (hk : meth.locks = false) : ∀ (n : Nat), ∀ (u : gw_St) (t0 : Nat) (x1 : Int32) (y2 : Int64) (x4 : Int32) (H : Heap) (locs : List Loc) (ls : Array Slot), gw_ok z t0 9 → gw_Wx D cA hs z s u H locs → lv_has ls 7 [(0, .ref (hs t0)), (1, .int x1), (2, .long y2), (4, .int x4)] → gf_Model_settle_L9 F z  n u t0 x1 y2 x4 = some r0 → gw_Gv p l e gr_Model_settle s m args below meth c D cA hs z r0 H locs ls 9 [] := by
  intro n
  induction n with
  | zero =>
    intro u t0 x1 y2 x4 H locs ls o_t0 hW hl h
    cases h
  | succ n ih =>
    intro u t0 x1 y2 x4 H locs ls o_t0 hW hl h
    exact gx_Model_settle_S9 F C hr hk  ih u t0 x1 y2 x4 o_t0 hW hl h

set_option maxHeartbeats 4000000 in
set_option maxRecDepth 20000 in
theorem gx_Model_settle_b0 {p : Program} {l : Launch} {e : Env} {s : State} {m : MethodId} {args : Array Value} {below : List Frame} {meth : Method} {c : Code} {D : va_G} {cA : Nat → ClassId} {hs : Nat → Nat} {z : gw_Sh} (F : Nat) {r0 : gw_St} (C : gw_Cx p s m args c gb_Model_settle 7 R_Model D cA) (hr : meth.sig.returnType = none) (hk : meth.locks = false) (u : gw_St) (t0 : Nat) (x1 : Int32) (o_t0 : gw_ok z t0 9) {H : Heap} {locs : List Loc} {ls : Array Slot} (hW : gw_Wx D cA hs z s u H locs) (hl : lv_has ls 7 [(0, .ref (hs t0)), (1, .int x1)]) (h : gf_Model_settle_b0 F z   u t0 x1 = some r0) : gw_Gv p l e gr_Model_settle s m args below meth c D cA hs z r0 H locs ls 0 [] := by
  obtain ⟨hx, hb, hml, hown, hts, hK⟩ := id C
  unfold gf_Model_settle_b0 at h
  refine lv_lconst (v := 0) hx hb gd_Model_settle_0 (by decide) ?_
  refine lv_lstore_n (lv' := [(2, .long 0), (0, .ref (hs t0)), (1, .int x1)]) hx hb gd_Model_settle_1 rfl hl (by decide) rfl (fun ls hl => ?_)
  refine lv_sipush (v := 256) hx hb gd_Model_settle_2 (by decide) ?_
  refine lv_iload_n hx hb gd_Model_settle_5 rfl (lv_at hl 2 rfl) ?_
  refine lv_imul hx hb gd_Model_settle_6 ?_
  refine lv_topi (fun a16 e17 => ?_)
  have h := gf_nm_ok e17 h
  refine lv_istore (lv' := [(4, .int a16), (2, .long 0), (0, .ref (hs t0)), (1, .int x1)]) hx hb gd_Model_settle_7 hl (by decide) rfl (fun ls hl => ?_)
  exact gx_Model_settle_L9 F C hr hk  F u t0 x1 0 a16 _ _ _ o_t0 hW (lv_sub hl [2, 3, 1, 0] rfl) h

set_option maxRecDepth 20000 in
theorem gc_Model_settle (l : Launch) {D : va_G} {cA : Nat → ClassId} {hs : Nat → Nat} {z : gw_Sh} (F : Nat) {u : gw_St} {r0 : gw_St} {t0 : Nat} {x1 : Int32} (o_t0 : gw_ok z t0 9) (h : gf_Model_settle F z u t0 x1 = some r0) (sz : Nat) : gw_Mv l gy_Model_settle gb_Model_settle 7 none gr_Model_settle [.ref (hs t0), .int x1] D cA hs z u sz r0 := by
  refine gw_enter (by decide) (Nat.le_of_ble_eq_true rfl) ?_
  intro p e s m below meth c ls hsz C hW hr hk _ hl
  subst hsz
  exact gx_Model_settle_b0 F C hr hk u t0 x1 o_t0 hW (lv_sub hl [0, 1] rfl) h
-- GearDeskModel.addWide(IIZ)V
theorem gk_541 : Cond.methodLink R_Model 269 gy_Model_settle ∈ gt_T := gt_m7 (List.mem_of_getElem? (i := 159) rfl) rfl
theorem gk_542 : Cond.instanceMethod gy_Model_settle ∈ gt_T := gt_m7 (List.mem_of_getElem? (i := 161) rfl) rfl
theorem gk_543 : Cond.selects R_Model gy_Model_settle gy_Model_settle ∈ gt_T := gt_p4 (List.mem_of_getElem? (i := 14) rfl) rfl
def gy_Model_addWide : MethodName := ⟨R_Model, "addWide", "(IIZ)V"⟩
abbrev gb_Model_addWide : ByteArray := prog_11_method_50_code
theorem gk_544 : Cond.code gy_Model_addWide gb_Model_addWide 5 none ∈ gt_T := gt_m7 (List.mem_of_getElem? (i := 158) rfl) rfl
def gr_Model_addWide : Room := gw_rm 2 90
theorem gm_Model_addWide : gw_Mth gy_Model_addWide gb_Model_addWide 5 none 3 := ⟨gk_544, gk_377, ⟨by decide +kernel, by decide +kernel⟩, by decide +kernel⟩
theorem gd_Model_addWide_0 : decode gb_Model_addWide 0 = .ok (.iconst 0, 1) := by decide +kernel
theorem gd_Model_addWide_1 : decode gb_Model_addWide 1 = .ok (.istore 4, 2) := by decide +kernel
theorem gd_Model_addWide_3 : decode gb_Model_addWide 3 = .ok (.iload 4, 2) := by decide +kernel
theorem gd_Model_addWide_5 : decode gb_Model_addWide 5 = .ok (.sipush 256, 3) := by decide +kernel
theorem gd_Model_addWide_8 : decode gb_Model_addWide 8 = .ok (.if_icmp .ge 59, 3) := by decide +kernel
theorem gd_Model_addWide_11 : decode gb_Model_addWide 11 = .ok (.aload_n 0, 1) := by decide +kernel
theorem gd_Model_addWide_12 : decode gb_Model_addWide 12 = .ok (.getfield 104, 3) := by decide +kernel
theorem gd_Model_addWide_15 : decode gb_Model_addWide 15 = .ok (.sipush 256, 3) := by decide +kernel
theorem gd_Model_addWide_18 : decode gb_Model_addWide 18 = .ok (.iload_n 1, 1) := by decide +kernel
theorem gd_Model_addWide_19 : decode gb_Model_addWide 19 = .ok (.imul, 1) := by decide +kernel
theorem gd_Model_addWide_20 : decode gb_Model_addWide 20 = .ok (.iload 4, 2) := by decide +kernel
theorem gd_Model_addWide_22 : decode gb_Model_addWide 22 = .ok (.iadd, 1) := by decide +kernel
theorem gd_Model_addWide_23 : decode gb_Model_addWide 23 = .ok (.dup2, 1) := by decide +kernel
theorem gd_Model_addWide_24 : decode gb_Model_addWide 24 = .ok (.laload, 1) := by decide +kernel
theorem gd_Model_addWide_25 : decode gb_Model_addWide 25 = .ok (.iload_n 3, 1) := by decide +kernel
theorem gd_Model_addWide_26 : decode gb_Model_addWide 26 = .ok (.ifCond .eq 20, 3) := by decide +kernel
theorem gd_Model_addWide_29 : decode gb_Model_addWide 29 = .ok (.aload_n 0, 1) := by decide +kernel
theorem gd_Model_addWide_30 : decode gb_Model_addWide 30 = .ok (.getfield 104, 3) := by decide +kernel
theorem gd_Model_addWide_33 : decode gb_Model_addWide 33 = .ok (.sipush 256, 3) := by decide +kernel
theorem gd_Model_addWide_36 : decode gb_Model_addWide 36 = .ok (.iload_n 2, 1) := by decide +kernel
theorem gd_Model_addWide_37 : decode gb_Model_addWide 37 = .ok (.imul, 1) := by decide +kernel
theorem gd_Model_addWide_38 : decode gb_Model_addWide 38 = .ok (.iload 4, 2) := by decide +kernel
theorem gd_Model_addWide_40 : decode gb_Model_addWide 40 = .ok (.iadd, 1) := by decide +kernel
theorem gd_Model_addWide_41 : decode gb_Model_addWide 41 = .ok (.laload, 1) := by decide +kernel
theorem gd_Model_addWide_42 : decode gb_Model_addWide 42 = .ok (.lneg, 1) := by decide +kernel
theorem gd_Model_addWide_43 : decode gb_Model_addWide 43 = .ok (.goto 16, 3) := by decide +kernel
theorem gd_Model_addWide_46 : decode gb_Model_addWide 46 = .ok (.aload_n 0, 1) := by decide +kernel
theorem gd_Model_addWide_47 : decode gb_Model_addWide 47 = .ok (.getfield 104, 3) := by decide +kernel
theorem gd_Model_addWide_50 : decode gb_Model_addWide 50 = .ok (.sipush 256, 3) := by decide +kernel
theorem gd_Model_addWide_53 : decode gb_Model_addWide 53 = .ok (.iload_n 2, 1) := by decide +kernel
theorem gd_Model_addWide_54 : decode gb_Model_addWide 54 = .ok (.imul, 1) := by decide +kernel
theorem gd_Model_addWide_55 : decode gb_Model_addWide 55 = .ok (.iload 4, 2) := by decide +kernel
theorem gd_Model_addWide_57 : decode gb_Model_addWide 57 = .ok (.iadd, 1) := by decide +kernel
theorem gd_Model_addWide_58 : decode gb_Model_addWide 58 = .ok (.laload, 1) := by decide +kernel
theorem gd_Model_addWide_59 : decode gb_Model_addWide 59 = .ok (.ladd, 1) := by decide +kernel
theorem gd_Model_addWide_60 : decode gb_Model_addWide 60 = .ok (.lastore, 1) := by decide +kernel
theorem gd_Model_addWide_61 : decode gb_Model_addWide 61 = .ok (.iinc 4 1, 3) := by decide +kernel
theorem gd_Model_addWide_64 : decode gb_Model_addWide 64 = .ok (.goto (-61), 3) := by decide +kernel
theorem gd_Model_addWide_67 : decode gb_Model_addWide 67 = .ok (.aload_n 0, 1) := by decide +kernel
theorem gd_Model_addWide_68 : decode gb_Model_addWide 68 = .ok (.iload_n 1, 1) := by decide +kernel
theorem gd_Model_addWide_69 : decode gb_Model_addWide 69 = .ok (.invokevirtual 269, 3) := by decide +kernel
theorem gd_Model_addWide_72 : decode gb_Model_addWide 72 = .ok (.return_, 1) := by decide +kernel
def gf_Model_addWide_b59 (F : Nat) (z : gw_Sh) (rc_3 : gw_St → Nat → Int32 → Int32 → Int32 → Int32 → Option gw_St) (u : gw_St) (t0 : Nat) (x1 : Int32) (x2 : Int32) (x3 : Int32) (x4 : Int32) (st0 : Nat) (sx1 : Int32) (sy2 : Int64) (sy3 : Int64) : Option gw_St :=
  if (sx1 < 0 ∨ z.2.2 st0 ≤ (sx1).toNatClampNeg) then none else gf_nm (gw_wl u st0 (sx1).toNatClampNeg (sy2 + sy3)) fun u2 => gf_nm (x4 + 1) fun a4 => rc_3 u2 t0 x1 x2 x3 a4
def gf_Model_addWide_S3 (F : Nat) (z : gw_Sh)  (rc_3 : gw_St → Nat → Int32 → Int32 → Int32 → Int32 → Option gw_St) (u : gw_St) (t0 : Nat) (x1 : Int32) (x2 : Int32) (x3 : Int32) (x4 : Int32) : Option gw_St :=
  if (256 : Int32) ≤ x4 then ((gf_Model_settle F z u t0 x1).bind fun u7 => some u7) else (gf_nn (u.2.2 t0 48) fun q9 => if ((((256 : Int32) * x1) + x4) < 0 ∨ z.2.2 q9 ≤ ((((256 : Int32) * x1) + x4)).toNatClampNeg) then none else if x3 = 0 then (gf_nn (u.2.2 t0 48) fun q13 => if ((((256 : Int32) * x2) + x4) < 0 ∨ z.2.2 q13 ≤ ((((256 : Int32) * x2) + x4)).toNatClampNeg) then none else gf_Model_addWide_b59 F z rc_3 u t0 x1 x2 x3 x4 q9 (((256 : Int32) * x1) + x4) (u.2.1 q9 ((((256 : Int32) * x1) + x4)).toNatClampNeg) (u.2.1 q13 ((((256 : Int32) * x2) + x4)).toNatClampNeg)) else (gf_nn (u.2.2 t0 48) fun q16 => if ((((256 : Int32) * x2) + x4) < 0 ∨ z.2.2 q16 ≤ ((((256 : Int32) * x2) + x4)).toNatClampNeg) then none else gf_Model_addWide_b59 F z rc_3 u t0 x1 x2 x3 x4 q9 (((256 : Int32) * x1) + x4) (u.2.1 q9 ((((256 : Int32) * x1) + x4)).toNatClampNeg) (-(u.2.1 q16 ((((256 : Int32) * x2) + x4)).toNatClampNeg))))
def gf_Model_addWide_L3 (F : Nat) (z : gw_Sh)  : Nat → gw_St → Nat → Int32 → Int32 → Int32 → Int32 → Option gw_St
  | 0 => fun _ _ _ _ _ _ => none
  | n + 1 => fun u t0 x1 x2 x3 x4 => gf_Model_addWide_S3 F z  (gf_Model_addWide_L3 F z  n) u t0 x1 x2 x3 x4
def gf_Model_addWide_b0 (F : Nat) (z : gw_Sh)  (u : gw_St) (t0 : Nat) (x1 : Int32) (x2 : Int32) (x3 : Int32) : Option gw_St :=
  gf_Model_addWide_L3 F z  F u t0 x1 x2 x3 0
def gf_Model_addWide (F : Nat) (z : gw_Sh) (u : gw_St) (t0 : Nat) (x1 : Int32) (x2 : Int32) (x3 : Int32) : Option gw_St := gf_Model_addWide_b0 F z  u t0 x1 x2 x3
set_option maxHeartbeats 4000000 in
set_option maxRecDepth 20000 in
theorem gx_Model_addWide_b59 {p : Program} {l : Launch} {e : Env} {s : State} {m : MethodId} {args : Array Value} {below : List Frame} {meth : Method} {c : Code} {D : va_G} {cA : Nat → ClassId} {hs : Nat → Nat} {z : gw_Sh} (F : Nat) {r0 : gw_St} (C : gw_Cx p s m args c gb_Model_addWide 5 R_Model D cA) (hr : meth.sig.returnType = none) (hk : meth.locks = false) {rc_3 : gw_St → Nat → Int32 → Int32 → Int32 → Int32 → Option gw_St} (k_3 : ∀ (u : gw_St) (t0 : Nat) (x1 : Int32) (x2 : Int32) (x3 : Int32) (x4 : Int32) (H : Heap) (locs : List Loc) (ls : Array Slot), gw_ok z t0 9 → gw_Wx D cA hs z s u H locs → lv_has ls 5 [(0, .ref (hs t0)), (1, .int x1), (2, .int x2), (3, .int x3), (4, .int x4)] → rc_3 u t0 x1 x2 x3 x4 = some r0 → gw_Gv p l e gr_Model_addWide s m args below meth c D cA hs z r0 H locs ls 3 []) (u : gw_St) (t0 : Nat) (x1 : Int32) (x2 : Int32) (x3 : Int32) (x4 : Int32) (st0 : Nat) (sx1 : Int32) (sy2 : Int64) (sy3 : Int64) (o_t0 : gw_ok z t0 9) (o_st0 : gw_ok z st0 11) {H : Heap} {locs : List Loc} {ls : Array Slot} (hW : gw_Wx D cA hs z s u H locs) (hl : lv_has ls 5 [(0, .ref (hs t0)), (1, .int x1), (2, .int x2), (3, .int x3), (4, .int x4)]) (h : gf_Model_addWide_b59 F z rc_3  u t0 x1 x2 x3 x4 st0 sx1 sy2 sy3 = some r0) : gw_Gv p l e gr_Model_addWide s m args below meth c D cA hs z r0 H locs ls 59 [.long sy3, .long sy2, .int sx1, .ref (hs st0)] := by
  obtain ⟨hx, hb, hml, hown, hts, hK⟩ := id C
  unfold gf_Model_addWide_b59 at h
  refine lv_ladd hx hb gd_Model_addWide_59 ?_
  obtain ⟨g1, h⟩ := gf_if_ok h
  refine gw_last C hW o_st0 g1 gd_Model_addWide_60 (fun u2 H locs e3 hW => ?_)
  have h := gf_nm_ok e3 h
  obtain ⟨a4, e5⟩ : ∃ y : Int32, y = x4 + 1 := ⟨_, rfl⟩
  have h := gf_nm_ok e5 h
  refine lv_iinc (v := a4) (lv' := [(4, .int a4), (0, .ref (hs t0)), (1, .int x1), (2, .int x2), (3, .int x3)]) hx hb gd_Model_addWide_61 hl (k := 4) rfl (by rw [e5]; rfl) (by decide) rfl (fun ls hl => ?_)
  refine lv_goto (tgt := 3) hx hb gd_Model_addWide_64 (by decide) ?_
  exact k_3 u2 t0 x1 x2 x3 a4 _ _ _ o_t0 hW (lv_sub hl [1, 2, 3, 4, 0] rfl) h

set_option maxHeartbeats 4000000 in
set_option maxRecDepth 20000 in
theorem gx_Model_addWide_S3 {p : Program} {l : Launch} {e : Env} {s : State} {m : MethodId} {args : Array Value} {below : List Frame} {meth : Method} {c : Code} {D : va_G} {cA : Nat → ClassId} {hs : Nat → Nat} {z : gw_Sh} (F : Nat) {r0 : gw_St} (C : gw_Cx p s m args c gb_Model_addWide 5 R_Model D cA) (hr : meth.sig.returnType = none) (hk : meth.locks = false) {rc_3 : gw_St → Nat → Int32 → Int32 → Int32 → Int32 → Option gw_St} (k_3 : ∀ (u : gw_St) (t0 : Nat) (x1 : Int32) (x2 : Int32) (x3 : Int32) (x4 : Int32) (H : Heap) (locs : List Loc) (ls : Array Slot), gw_ok z t0 9 → gw_Wx D cA hs z s u H locs → lv_has ls 5 [(0, .ref (hs t0)), (1, .int x1), (2, .int x2), (3, .int x3), (4, .int x4)] → rc_3 u t0 x1 x2 x3 x4 = some r0 → gw_Gv p l e gr_Model_addWide s m args below meth c D cA hs z r0 H locs ls 3 []) (u : gw_St) (t0 : Nat) (x1 : Int32) (x2 : Int32) (x3 : Int32) (x4 : Int32) (o_t0 : gw_ok z t0 9) {H : Heap} {locs : List Loc} {ls : Array Slot} (hW : gw_Wx D cA hs z s u H locs) (hl : lv_has ls 5 [(0, .ref (hs t0)), (1, .int x1), (2, .int x2), (3, .int x3), (4, .int x4)]) (h : gf_Model_addWide_S3 F z  rc_3 u t0 x1 x2 x3 x4 = some r0) : gw_Gv p l e gr_Model_addWide s m args below meth c D cA hs z r0 H locs ls 3 [] := by
  obtain ⟨hx, hb, hml, hown, hts, hK⟩ := id C
  unfold gf_Model_addWide_S3 at h
  refine lv_iload hx hb gd_Model_addWide_3 (lv_at hl 4 rfl) ?_
  refine lv_sipush (v := 256) hx hb gd_Model_addWide_5 (by decide) ?_
  refine lv_icmp_ge (tgt := 67) hx hb gd_Model_addWide_8 (by decide) (fun c6 => ?_) (fun c6 => ?_)
  · have h := gf_t c6 h
    refine lv_aload_n hx hb gd_Model_addWide_67 rfl (lv_at hl 0 rfl) ?_
    refine lv_iload_n hx hb gd_Model_addWide_68 rfl (lv_at hl 1 rfl) ?_
    obtain ⟨u7, d8, h⟩ := gf_bd_ok h
    refine gw_callVv (K := R_Model) (As := [.int x1]) (rest := []) C hW (fun _ h => Or.inr h) hl.1 gm_Model_settle (gc_Model_settle l F o_t0 d8 _) gk_541 gk_542 gk_543 o_t0 (by decide) rfl rfl rfl ⟨Nat.le_of_ble_eq_true rfl, Nat.le_of_ble_eq_true rfl⟩ ⟨Nat.zero_le _, Nat.zero_le _⟩ rfl rfl (Nat.le_of_ble_eq_true rfl) gd_Model_addWide_69 (fun H locs hW => ?_)
    obtain rfl := Option.some.inj h
    exact gw_vret C hW hr hk gd_Model_addWide_72
  · have h := gf_f c6 h
    refine lv_aload_n hx hb gd_Model_addWide_11 rfl (lv_at hl 0 rfl) ?_
    obtain ⟨q9, e10, h⟩ := gf_nn_ok h
    refine gw_getr (k := 48) (ty := 11) (ref := R_Model) C hW o_t0 (by decide) rfl gi_Model rfl (by decide) rfl rfl gk_526 gd_Model_addWide_12 e10 ?_
    have o_q9 := hW.ref (d := 11) o_t0 e10 rfl
    refine lv_sipush (v := 256) hx hb gd_Model_addWide_15 (by decide) ?_
    refine lv_iload_n hx hb gd_Model_addWide_18 rfl (lv_at hl 1 rfl) ?_
    refine lv_imul hx hb gd_Model_addWide_19 ?_
    refine lv_iload hx hb gd_Model_addWide_20 (lv_at hl 4 rfl) ?_
    refine lv_iadd hx hb gd_Model_addWide_22 ?_
    refine lv_dup2_11 hx hb gd_Model_addWide_23 rfl rfl ?_
    obtain ⟨g11, h⟩ := gf_if_ok h
    refine gw_lald C hW o_q9 g11 gd_Model_addWide_24 ?_
    refine lv_iload_n hx hb gd_Model_addWide_25 rfl (lv_at hl 3 rfl) ?_
    refine lv_if_eq (tgt := 46) hx hb gd_Model_addWide_26 (by decide) (fun c12 => ?_) (fun c12 => ?_)
    · have h := gf_t c12 h
      refine lv_aload_n hx hb gd_Model_addWide_46 rfl (lv_at hl 0 rfl) ?_
      obtain ⟨q13, e14, h⟩ := gf_nn_ok h
      refine gw_getr (k := 48) (ty := 11) (ref := R_Model) C hW o_t0 (by decide) rfl gi_Model rfl (by decide) rfl rfl gk_526 gd_Model_addWide_47 e14 ?_
      have o_q13 := hW.ref (d := 11) o_t0 e14 rfl
      refine lv_sipush (v := 256) hx hb gd_Model_addWide_50 (by decide) ?_
      refine lv_iload_n hx hb gd_Model_addWide_53 rfl (lv_at hl 2 rfl) ?_
      refine lv_imul hx hb gd_Model_addWide_54 ?_
      refine lv_iload hx hb gd_Model_addWide_55 (lv_at hl 4 rfl) ?_
      refine lv_iadd hx hb gd_Model_addWide_57 ?_
      obtain ⟨g15, h⟩ := gf_if_ok h
      refine gw_lald C hW o_q13 g15 gd_Model_addWide_58 ?_
      exact gx_Model_addWide_b59 F C hr hk k_3 u t0 x1 x2 x3 x4 q9 (((256 : Int32) * x1) + x4) (u.2.1 q9 ((((256 : Int32) * x1) + x4)).toNatClampNeg) (u.2.1 q13 ((((256 : Int32) * x2) + x4)).toNatClampNeg) o_t0 o_q9 hW (lv_sub hl [0, 1, 2, 3, 4] rfl) h
    · have h := gf_f c12 h
      refine lv_aload_n hx hb gd_Model_addWide_29 rfl (lv_at hl 0 rfl) ?_
      obtain ⟨q16, e17, h⟩ := gf_nn_ok h
      refine gw_getr (k := 48) (ty := 11) (ref := R_Model) C hW o_t0 (by decide) rfl gi_Model rfl (by decide) rfl rfl gk_526 gd_Model_addWide_30 e17 ?_
      have o_q16 := hW.ref (d := 11) o_t0 e17 rfl
      refine lv_sipush (v := 256) hx hb gd_Model_addWide_33 (by decide) ?_
      refine lv_iload_n hx hb gd_Model_addWide_36 rfl (lv_at hl 2 rfl) ?_
      refine lv_imul hx hb gd_Model_addWide_37 ?_
      refine lv_iload hx hb gd_Model_addWide_38 (lv_at hl 4 rfl) ?_
      refine lv_iadd hx hb gd_Model_addWide_40 ?_
      obtain ⟨g18, h⟩ := gf_if_ok h
      refine gw_lald C hW o_q16 g18 gd_Model_addWide_41 ?_
      refine lv_lneg hx hb gd_Model_addWide_42 ?_
      refine lv_goto (tgt := 59) hx hb gd_Model_addWide_43 (by decide) ?_
      exact gx_Model_addWide_b59 F C hr hk k_3 u t0 x1 x2 x3 x4 q9 (((256 : Int32) * x1) + x4) (u.2.1 q9 ((((256 : Int32) * x1) + x4)).toNatClampNeg) (-(u.2.1 q16 ((((256 : Int32) * x2) + x4)).toNatClampNeg)) o_t0 o_q9 hW (lv_sub hl [0, 1, 2, 3, 4] rfl) h
set_option maxHeartbeats 4000000 in
set_option maxRecDepth 20000 in
theorem gx_Model_addWide_L3 {p : Program} {l : Launch} {e : Env} {s : State} {m : MethodId} {args : Array Value} {below : List Frame} {meth : Method} {c : Code} {D : va_G} {cA : Nat → ClassId} {hs : Nat → Nat} {z : gw_Sh} (F : Nat) {r0 : gw_St} (C : gw_Cx p s m args c gb_Model_addWide 5 R_Model D cA) (hr : meth.sig.returnType = none) (hk : meth.locks = false) : ∀ (n : Nat), ∀ (u : gw_St) (t0 : Nat) (x1 : Int32) (x2 : Int32) (x3 : Int32) (x4 : Int32) (H : Heap) (locs : List Loc) (ls : Array Slot), gw_ok z t0 9 → gw_Wx D cA hs z s u H locs → lv_has ls 5 [(0, .ref (hs t0)), (1, .int x1), (2, .int x2), (3, .int x3), (4, .int x4)] → gf_Model_addWide_L3 F z  n u t0 x1 x2 x3 x4 = some r0 → gw_Gv p l e gr_Model_addWide s m args below meth c D cA hs z r0 H locs ls 3 [] := by
  intro n
  induction n with
  | zero =>
    intro u t0 x1 x2 x3 x4 H locs ls o_t0 hW hl h
    cases h
  | succ n ih =>
    intro u t0 x1 x2 x3 x4 H locs ls o_t0 hW hl h
    exact gx_Model_addWide_S3 F C hr hk  ih u t0 x1 x2 x3 x4 o_t0 hW hl h

set_option maxHeartbeats 4000000 in
set_option maxRecDepth 20000 in
theorem gx_Model_addWide_b0 {p : Program} {l : Launch} {e : Env} {s : State} {m : MethodId} {args : Array Value} {below : List Frame} {meth : Method} {c : Code} {D : va_G} {cA : Nat → ClassId} {hs : Nat → Nat} {z : gw_Sh} (F : Nat) {r0 : gw_St} (C : gw_Cx p s m args c gb_Model_addWide 5 R_Model D cA) (hr : meth.sig.returnType = none) (hk : meth.locks = false) (u : gw_St) (t0 : Nat) (x1 : Int32) (x2 : Int32) (x3 : Int32) (o_t0 : gw_ok z t0 9) {H : Heap} {locs : List Loc} {ls : Array Slot} (hW : gw_Wx D cA hs z s u H locs) (hl : lv_has ls 5 [(0, .ref (hs t0)), (1, .int x1), (2, .int x2), (3, .int x3)]) (h : gf_Model_addWide_b0 F z   u t0 x1 x2 x3 = some r0) : gw_Gv p l e gr_Model_addWide s m args below meth c D cA hs z r0 H locs ls 0 [] := by
  obtain ⟨hx, hb, hml, hown, hts, hK⟩ := id C
  unfold gf_Model_addWide_b0 at h
  refine lv_iconst (v := 0) hx hb gd_Model_addWide_0 (by decide) ?_
  refine lv_istore (lv' := [(4, .int 0), (0, .ref (hs t0)), (1, .int x1), (2, .int x2), (3, .int x3)]) hx hb gd_Model_addWide_1 hl (by decide) rfl (fun ls hl => ?_)
  exact gx_Model_addWide_L3 F C hr hk  F u t0 x1 x2 x3 0 _ _ _ o_t0 hW (lv_sub hl [1, 2, 3, 4, 0] rfl) h

set_option maxRecDepth 20000 in
theorem gc_Model_addWide (l : Launch) {D : va_G} {cA : Nat → ClassId} {hs : Nat → Nat} {z : gw_Sh} (F : Nat) {u : gw_St} {r0 : gw_St} {t0 : Nat} {x1 : Int32} {x2 : Int32} {x3 : Int32} (o_t0 : gw_ok z t0 9) (h : gf_Model_addWide F z u t0 x1 x2 x3 = some r0) (sz : Nat) : gw_Mv l gy_Model_addWide gb_Model_addWide 5 none gr_Model_addWide [.ref (hs t0), .int x1, .int x2, .int x3] D cA hs z u sz r0 := by
  refine gw_enter (by decide) (Nat.le_of_ble_eq_true rfl) ?_
  intro p e s m below meth c ls hsz C hW hr hk _ hl
  subst hsz
  exact gx_Model_addWide_b0 F C hr hk u t0 x1 x2 x3 o_t0 hW (lv_sub hl [0, 1, 2, 3] rfl) h
-- GearDeskModel.multiply(III)V
def gy_Model_multiply : MethodName := ⟨R_Model, "multiply", "(III)V"⟩
abbrev gb_Model_multiply : ByteArray := prog_11_method_51_code
theorem gk_545 : Cond.code gy_Model_multiply gb_Model_multiply 8 none ∈ gt_T := gt_m8 (List.mem_of_getElem? (i := 2) rfl) rfl
def gr_Model_multiply : Room := gw_rm 2 90
theorem gm_Model_multiply : gw_Mth gy_Model_multiply gb_Model_multiply 8 none 3 := ⟨gk_545, gk_377, ⟨by decide +kernel, by decide +kernel⟩, by decide +kernel⟩
theorem gd_Model_multiply_0 : decode gb_Model_multiply 0 = .ok (.aload_n 0, 1) := by decide +kernel
theorem gd_Model_multiply_1 : decode gb_Model_multiply 1 = .ok (.iload_n 1, 1) := by decide +kernel
theorem gd_Model_multiply_2 : decode gb_Model_multiply 2 = .ok (.invokevirtual 263, 3) := by decide +kernel
theorem gd_Model_multiply_5 : decode gb_Model_multiply 5 = .ok (.aload_n 0, 1) := by decide +kernel
theorem gd_Model_multiply_6 : decode gb_Model_multiply 6 = .ok (.iload_n 2, 1) := by decide +kernel
theorem gd_Model_multiply_7 : decode gb_Model_multiply 7 = .ok (.invokevirtual 260, 3) := by decide +kernel
theorem gd_Model_multiply_10 : decode gb_Model_multiply 10 = .ok (.istore 4, 2) := by decide +kernel
theorem gd_Model_multiply_12 : decode gb_Model_multiply 12 = .ok (.aload_n 0, 1) := by decide +kernel
theorem gd_Model_multiply_13 : decode gb_Model_multiply 13 = .ok (.iload_n 3, 1) := by decide +kernel
theorem gd_Model_multiply_14 : decode gb_Model_multiply 14 = .ok (.invokevirtual 260, 3) := by decide +kernel
theorem gd_Model_multiply_17 : decode gb_Model_multiply 17 = .ok (.istore 5, 2) := by decide +kernel
theorem gd_Model_multiply_19 : decode gb_Model_multiply 19 = .ok (.iconst 0, 1) := by decide +kernel
theorem gd_Model_multiply_20 : decode gb_Model_multiply 20 = .ok (.istore 6, 2) := by decide +kernel
theorem gd_Model_multiply_22 : decode gb_Model_multiply 22 = .ok (.iload 6, 2) := by decide +kernel
theorem gd_Model_multiply_24 : decode gb_Model_multiply 24 = .ok (.iload 4, 2) := by decide +kernel
theorem gd_Model_multiply_26 : decode gb_Model_multiply 26 = .ok (.if_icmp .ge 82, 3) := by decide +kernel
theorem gd_Model_multiply_29 : decode gb_Model_multiply 29 = .ok (.iconst 0, 1) := by decide +kernel
theorem gd_Model_multiply_30 : decode gb_Model_multiply 30 = .ok (.istore 7, 2) := by decide +kernel
theorem gd_Model_multiply_32 : decode gb_Model_multiply 32 = .ok (.iload 7, 2) := by decide +kernel
theorem gd_Model_multiply_34 : decode gb_Model_multiply 34 = .ok (.iload 5, 2) := by decide +kernel
theorem gd_Model_multiply_36 : decode gb_Model_multiply 36 = .ok (.if_icmp .ge 66, 3) := by decide +kernel
theorem gd_Model_multiply_39 : decode gb_Model_multiply 39 = .ok (.iload 6, 2) := by decide +kernel
theorem gd_Model_multiply_41 : decode gb_Model_multiply 41 = .ok (.iload 7, 2) := by decide +kernel
theorem gd_Model_multiply_43 : decode gb_Model_multiply 43 = .ok (.iadd, 1) := by decide +kernel
theorem gd_Model_multiply_44 : decode gb_Model_multiply 44 = .ok (.sipush 256, 3) := by decide +kernel
theorem gd_Model_multiply_47 : decode gb_Model_multiply 47 = .ok (.if_icmp .ge 55, 3) := by decide +kernel
theorem gd_Model_multiply_50 : decode gb_Model_multiply 50 = .ok (.aload_n 0, 1) := by decide +kernel
theorem gd_Model_multiply_51 : decode gb_Model_multiply 51 = .ok (.getfield 104, 3) := by decide +kernel
theorem gd_Model_multiply_54 : decode gb_Model_multiply 54 = .ok (.sipush 256, 3) := by decide +kernel
theorem gd_Model_multiply_57 : decode gb_Model_multiply 57 = .ok (.iload_n 1, 1) := by decide +kernel
theorem gd_Model_multiply_58 : decode gb_Model_multiply 58 = .ok (.imul, 1) := by decide +kernel
theorem gd_Model_multiply_59 : decode gb_Model_multiply 59 = .ok (.iload 6, 2) := by decide +kernel
theorem gd_Model_multiply_61 : decode gb_Model_multiply 61 = .ok (.iadd, 1) := by decide +kernel
theorem gd_Model_multiply_62 : decode gb_Model_multiply 62 = .ok (.iload 7, 2) := by decide +kernel
theorem gd_Model_multiply_64 : decode gb_Model_multiply 64 = .ok (.iadd, 1) := by decide +kernel
theorem gd_Model_multiply_65 : decode gb_Model_multiply 65 = .ok (.dup2, 1) := by decide +kernel
theorem gd_Model_multiply_66 : decode gb_Model_multiply 66 = .ok (.laload, 1) := by decide +kernel
theorem gd_Model_multiply_67 : decode gb_Model_multiply 67 = .ok (.aload_n 0, 1) := by decide +kernel
theorem gd_Model_multiply_68 : decode gb_Model_multiply 68 = .ok (.getfield 104, 3) := by decide +kernel
theorem gd_Model_multiply_71 : decode gb_Model_multiply 71 = .ok (.sipush 256, 3) := by decide +kernel
theorem gd_Model_multiply_74 : decode gb_Model_multiply 74 = .ok (.iload_n 2, 1) := by decide +kernel
theorem gd_Model_multiply_75 : decode gb_Model_multiply 75 = .ok (.imul, 1) := by decide +kernel
theorem gd_Model_multiply_76 : decode gb_Model_multiply 76 = .ok (.iload 6, 2) := by decide +kernel
theorem gd_Model_multiply_78 : decode gb_Model_multiply 78 = .ok (.iadd, 1) := by decide +kernel
theorem gd_Model_multiply_79 : decode gb_Model_multiply 79 = .ok (.laload, 1) := by decide +kernel
theorem gd_Model_multiply_80 : decode gb_Model_multiply 80 = .ok (.aload_n 0, 1) := by decide +kernel
theorem gd_Model_multiply_81 : decode gb_Model_multiply 81 = .ok (.getfield 104, 3) := by decide +kernel
theorem gd_Model_multiply_84 : decode gb_Model_multiply 84 = .ok (.sipush 256, 3) := by decide +kernel
theorem gd_Model_multiply_87 : decode gb_Model_multiply 87 = .ok (.iload_n 3, 1) := by decide +kernel
theorem gd_Model_multiply_88 : decode gb_Model_multiply 88 = .ok (.imul, 1) := by decide +kernel
theorem gd_Model_multiply_89 : decode gb_Model_multiply 89 = .ok (.iload 7, 2) := by decide +kernel
theorem gd_Model_multiply_91 : decode gb_Model_multiply 91 = .ok (.iadd, 1) := by decide +kernel
theorem gd_Model_multiply_92 : decode gb_Model_multiply 92 = .ok (.laload, 1) := by decide +kernel
theorem gd_Model_multiply_93 : decode gb_Model_multiply 93 = .ok (.lmul, 1) := by decide +kernel
theorem gd_Model_multiply_94 : decode gb_Model_multiply 94 = .ok (.ladd, 1) := by decide +kernel
theorem gd_Model_multiply_95 : decode gb_Model_multiply 95 = .ok (.lastore, 1) := by decide +kernel
theorem gd_Model_multiply_96 : decode gb_Model_multiply 96 = .ok (.iinc 7 1, 3) := by decide +kernel
theorem gd_Model_multiply_99 : decode gb_Model_multiply 99 = .ok (.goto (-67), 3) := by decide +kernel
theorem gd_Model_multiply_102 : decode gb_Model_multiply 102 = .ok (.iinc 6 1, 3) := by decide +kernel
theorem gd_Model_multiply_105 : decode gb_Model_multiply 105 = .ok (.goto (-83), 3) := by decide +kernel
theorem gd_Model_multiply_108 : decode gb_Model_multiply 108 = .ok (.aload_n 0, 1) := by decide +kernel
theorem gd_Model_multiply_109 : decode gb_Model_multiply 109 = .ok (.iload_n 1, 1) := by decide +kernel
theorem gd_Model_multiply_110 : decode gb_Model_multiply 110 = .ok (.invokevirtual 269, 3) := by decide +kernel
theorem gd_Model_multiply_113 : decode gb_Model_multiply 113 = .ok (.return_, 1) := by decide +kernel
def gf_Model_multiply_b102 (F : Nat) (z : gw_Sh) (rc_22 : gw_St → Nat → Int32 → Int32 → Int32 → Int32 → Int32 → Int32 → Option gw_St) (u : gw_St) (t0 : Nat) (x1 : Int32) (x2 : Int32) (x3 : Int32) (x4 : Int32) (x5 : Int32) (x6 : Int32) : Option gw_St :=
  gf_nm (x6 + 1) fun a1 => rc_22 u t0 x1 x2 x3 x4 x5 a1
def gf_Model_multiply_S32 (F : Nat) (z : gw_Sh) (rc_22 : gw_St → Nat → Int32 → Int32 → Int32 → Int32 → Int32 → Int32 → Option gw_St) (rc_32 : gw_St → Nat → Int32 → Int32 → Int32 → Int32 → Int32 → Int32 → Int32 → Option gw_St) (u : gw_St) (t0 : Nat) (x1 : Int32) (x2 : Int32) (x3 : Int32) (x4 : Int32) (x5 : Int32) (x6 : Int32) (x7 : Int32) : Option gw_St :=
  if x5 ≤ x7 then (gf_Model_multiply_b102 F z rc_22 u t0 x1 x2 x3 x4 x5 x6) else (if (256 : Int32) ≤ (x6 + x7) then (gf_Model_multiply_b102 F z rc_22 u t0 x1 x2 x3 x4 x5 x6) else (gf_nn (u.2.2 t0 48) fun q5 => if (((((256 : Int32) * x1) + x6) + x7) < 0 ∨ z.2.2 q5 ≤ (((((256 : Int32) * x1) + x6) + x7)).toNatClampNeg) then none else gf_nn (u.2.2 t0 48) fun q8 => if ((((256 : Int32) * x2) + x6) < 0 ∨ z.2.2 q8 ≤ ((((256 : Int32) * x2) + x6)).toNatClampNeg) then none else gf_nn (u.2.2 t0 48) fun q11 => if ((((256 : Int32) * x3) + x7) < 0 ∨ z.2.2 q11 ≤ ((((256 : Int32) * x3) + x7)).toNatClampNeg) then none else if (((((256 : Int32) * x1) + x6) + x7) < 0 ∨ z.2.2 q5 ≤ (((((256 : Int32) * x1) + x6) + x7)).toNatClampNeg) then none else gf_nm (gw_wl u q5 (((((256 : Int32) * x1) + x6) + x7)).toNatClampNeg ((u.2.1 q5 (((((256 : Int32) * x1) + x6) + x7)).toNatClampNeg) + ((u.2.1 q8 ((((256 : Int32) * x2) + x6)).toNatClampNeg) * (u.2.1 q11 ((((256 : Int32) * x3) + x7)).toNatClampNeg)))) fun u15 => gf_nm (x7 + 1) fun a17 => rc_32 u15 t0 x1 x2 x3 x4 x5 x6 a17))
def gf_Model_multiply_L32 (F : Nat) (z : gw_Sh) (rc_22 : gw_St → Nat → Int32 → Int32 → Int32 → Int32 → Int32 → Int32 → Option gw_St) : Nat → gw_St → Nat → Int32 → Int32 → Int32 → Int32 → Int32 → Int32 → Int32 → Option gw_St
  | 0 => fun _ _ _ _ _ _ _ _ _ => none
  | n + 1 => fun u t0 x1 x2 x3 x4 x5 x6 x7 => gf_Model_multiply_S32 F z rc_22 (gf_Model_multiply_L32 F z rc_22 n) u t0 x1 x2 x3 x4 x5 x6 x7
def gf_Model_multiply_S22 (F : Nat) (z : gw_Sh)  (rc_22 : gw_St → Nat → Int32 → Int32 → Int32 → Int32 → Int32 → Int32 → Option gw_St) (u : gw_St) (t0 : Nat) (x1 : Int32) (x2 : Int32) (x3 : Int32) (x4 : Int32) (x5 : Int32) (x6 : Int32) : Option gw_St :=
  if x4 ≤ x6 then ((gf_Model_settle F z u t0 x1).bind fun u20 => some u20) else (gf_Model_multiply_L32 F z rc_22 F u t0 x1 x2 x3 x4 x5 x6 0)
def gf_Model_multiply_L22 (F : Nat) (z : gw_Sh)  : Nat → gw_St → Nat → Int32 → Int32 → Int32 → Int32 → Int32 → Int32 → Option gw_St
  | 0 => fun _ _ _ _ _ _ _ _ => none
  | n + 1 => fun u t0 x1 x2 x3 x4 x5 x6 => gf_Model_multiply_S22 F z  (gf_Model_multiply_L22 F z  n) u t0 x1 x2 x3 x4 x5 x6
def gf_Model_multiply_b0 (F : Nat) (z : gw_Sh)  (u : gw_St) (t0 : Nat) (x1 : Int32) (x2 : Int32) (x3 : Int32) : Option gw_St :=
  (gf_Model_clearWide F z u t0 x1).bind fun u22 => gf_cl (gf_Model_size F z u22 t0 x2) fun a26 u24 => gf_cl (gf_Model_size F z u24 t0 x3) fun a29 u27 => gf_Model_multiply_L22 F z  F u27 t0 x1 x2 x3 a26 a29 0
def gf_Model_multiply (F : Nat) (z : gw_Sh) (u : gw_St) (t0 : Nat) (x1 : Int32) (x2 : Int32) (x3 : Int32) : Option gw_St := gf_Model_multiply_b0 F z  u t0 x1 x2 x3
set_option maxHeartbeats 4000000 in
set_option maxRecDepth 20000 in
theorem gx_Model_multiply_b102 {p : Program} {l : Launch} {e : Env} {s : State} {m : MethodId} {args : Array Value} {below : List Frame} {meth : Method} {c : Code} {D : va_G} {cA : Nat → ClassId} {hs : Nat → Nat} {z : gw_Sh} (F : Nat) {r0 : gw_St} (C : gw_Cx p s m args c gb_Model_multiply 8 R_Model D cA) (hr : meth.sig.returnType = none) (hk : meth.locks = false) {rc_22 : gw_St → Nat → Int32 → Int32 → Int32 → Int32 → Int32 → Int32 → Option gw_St} (k_22 : ∀ (u : gw_St) (t0 : Nat) (x1 : Int32) (x2 : Int32) (x3 : Int32) (x4 : Int32) (x5 : Int32) (x6 : Int32) (H : Heap) (locs : List Loc) (ls : Array Slot), gw_ok z t0 9 → gw_Wx D cA hs z s u H locs → lv_has ls 8 [(0, .ref (hs t0)), (1, .int x1), (2, .int x2), (3, .int x3), (4, .int x4), (5, .int x5), (6, .int x6)] → rc_22 u t0 x1 x2 x3 x4 x5 x6 = some r0 → gw_Gv p l e gr_Model_multiply s m args below meth c D cA hs z r0 H locs ls 22 []) (u : gw_St) (t0 : Nat) (x1 : Int32) (x2 : Int32) (x3 : Int32) (x4 : Int32) (x5 : Int32) (x6 : Int32) (o_t0 : gw_ok z t0 9) {H : Heap} {locs : List Loc} {ls : Array Slot} (hW : gw_Wx D cA hs z s u H locs) (hl : lv_has ls 8 [(0, .ref (hs t0)), (1, .int x1), (2, .int x2), (3, .int x3), (4, .int x4), (5, .int x5), (6, .int x6)]) (h : gf_Model_multiply_b102 F z rc_22  u t0 x1 x2 x3 x4 x5 x6 = some r0) : gw_Gv p l e gr_Model_multiply s m args below meth c D cA hs z r0 H locs ls 102 [] := by
  obtain ⟨hx, hb, hml, hown, hts, hK⟩ := id C
  unfold gf_Model_multiply_b102 at h
  obtain ⟨a1, e2⟩ : ∃ y : Int32, y = x6 + 1 := ⟨_, rfl⟩
  have h := gf_nm_ok e2 h
  refine lv_iinc (v := a1) (lv' := [(6, .int a1), (0, .ref (hs t0)), (1, .int x1), (2, .int x2), (3, .int x3), (4, .int x4), (5, .int x5)]) hx hb gd_Model_multiply_102 hl (k := 6) rfl (by rw [e2]; rfl) (by decide) rfl (fun ls hl => ?_)
  refine lv_goto (tgt := 22) hx hb gd_Model_multiply_105 (by decide) ?_
  exact k_22 u t0 x1 x2 x3 x4 x5 a1 _ _ _ o_t0 hW (lv_sub hl [1, 2, 3, 4, 5, 6, 0] rfl) h

set_option maxHeartbeats 4000000 in
set_option maxRecDepth 20000 in
theorem gx_Model_multiply_S32 {p : Program} {l : Launch} {e : Env} {s : State} {m : MethodId} {args : Array Value} {below : List Frame} {meth : Method} {c : Code} {D : va_G} {cA : Nat → ClassId} {hs : Nat → Nat} {z : gw_Sh} (F : Nat) {r0 : gw_St} (C : gw_Cx p s m args c gb_Model_multiply 8 R_Model D cA) (hr : meth.sig.returnType = none) (hk : meth.locks = false) {rc_22 : gw_St → Nat → Int32 → Int32 → Int32 → Int32 → Int32 → Int32 → Option gw_St} (k_22 : ∀ (u : gw_St) (t0 : Nat) (x1 : Int32) (x2 : Int32) (x3 : Int32) (x4 : Int32) (x5 : Int32) (x6 : Int32) (H : Heap) (locs : List Loc) (ls : Array Slot), gw_ok z t0 9 → gw_Wx D cA hs z s u H locs → lv_has ls 8 [(0, .ref (hs t0)), (1, .int x1), (2, .int x2), (3, .int x3), (4, .int x4), (5, .int x5), (6, .int x6)] → rc_22 u t0 x1 x2 x3 x4 x5 x6 = some r0 → gw_Gv p l e gr_Model_multiply s m args below meth c D cA hs z r0 H locs ls 22 []) {rc_32 : gw_St → Nat → Int32 → Int32 → Int32 → Int32 → Int32 → Int32 → Int32 → Option gw_St} (k_32 : ∀ (u : gw_St) (t0 : Nat) (x1 : Int32) (x2 : Int32) (x3 : Int32) (x4 : Int32) (x5 : Int32) (x6 : Int32) (x7 : Int32) (H : Heap) (locs : List Loc) (ls : Array Slot), gw_ok z t0 9 → gw_Wx D cA hs z s u H locs → lv_has ls 8 [(0, .ref (hs t0)), (1, .int x1), (2, .int x2), (3, .int x3), (4, .int x4), (5, .int x5), (6, .int x6), (7, .int x7)] → rc_32 u t0 x1 x2 x3 x4 x5 x6 x7 = some r0 → gw_Gv p l e gr_Model_multiply s m args below meth c D cA hs z r0 H locs ls 32 []) (u : gw_St) (t0 : Nat) (x1 : Int32) (x2 : Int32) (x3 : Int32) (x4 : Int32) (x5 : Int32) (x6 : Int32) (x7 : Int32) (o_t0 : gw_ok z t0 9) {H : Heap} {locs : List Loc} {ls : Array Slot} (hW : gw_Wx D cA hs z s u H locs) (hl : lv_has ls 8 [(0, .ref (hs t0)), (1, .int x1), (2, .int x2), (3, .int x3), (4, .int x4), (5, .int x5), (6, .int x6), (7, .int x7)]) (h : gf_Model_multiply_S32 F z rc_22 rc_32 u t0 x1 x2 x3 x4 x5 x6 x7 = some r0) : gw_Gv p l e gr_Model_multiply s m args below meth c D cA hs z r0 H locs ls 32 [] := by
  obtain ⟨hx, hb, hml, hown, hts, hK⟩ := id C
  unfold gf_Model_multiply_S32 at h
  refine lv_iload hx hb gd_Model_multiply_32 (lv_at hl 7 rfl) ?_
  refine lv_iload hx hb gd_Model_multiply_34 (lv_at hl 5 rfl) ?_
  refine lv_icmp_ge (tgt := 102) hx hb gd_Model_multiply_36 (by decide) (fun c3 => ?_) (fun c3 => ?_)
  · have h := gf_t c3 h
    exact gx_Model_multiply_b102 F C hr hk k_22 u t0 x1 x2 x3 x4 x5 x6 o_t0 hW (lv_sub hl [0, 1, 2, 3, 4, 5, 6] rfl) h
  · have h := gf_f c3 h
    refine lv_iload hx hb gd_Model_multiply_39 (lv_at hl 6 rfl) ?_
    refine lv_iload hx hb gd_Model_multiply_41 (lv_at hl 7 rfl) ?_
    refine lv_iadd hx hb gd_Model_multiply_43 ?_
    refine lv_sipush (v := 256) hx hb gd_Model_multiply_44 (by decide) ?_
    refine lv_icmp_ge (tgt := 102) hx hb gd_Model_multiply_47 (by decide) (fun c4 => ?_) (fun c4 => ?_)
    · have h := gf_t c4 h
      exact gx_Model_multiply_b102 F C hr hk k_22 u t0 x1 x2 x3 x4 x5 x6 o_t0 hW (lv_sub hl [0, 1, 2, 3, 4, 5, 6] rfl) h
    · have h := gf_f c4 h
      refine lv_aload_n hx hb gd_Model_multiply_50 rfl (lv_at hl 0 rfl) ?_
      obtain ⟨q5, e6, h⟩ := gf_nn_ok h
      refine gw_getr (k := 48) (ty := 11) (ref := R_Model) C hW o_t0 (by decide) rfl gi_Model rfl (by decide) rfl rfl gk_526 gd_Model_multiply_51 e6 ?_
      have o_q5 := hW.ref (d := 11) o_t0 e6 rfl
      refine lv_sipush (v := 256) hx hb gd_Model_multiply_54 (by decide) ?_
      refine lv_iload_n hx hb gd_Model_multiply_57 rfl (lv_at hl 1 rfl) ?_
      refine lv_imul hx hb gd_Model_multiply_58 ?_
      refine lv_iload hx hb gd_Model_multiply_59 (lv_at hl 6 rfl) ?_
      refine lv_iadd hx hb gd_Model_multiply_61 ?_
      refine lv_iload hx hb gd_Model_multiply_62 (lv_at hl 7 rfl) ?_
      refine lv_iadd hx hb gd_Model_multiply_64 ?_
      refine lv_dup2_11 hx hb gd_Model_multiply_65 rfl rfl ?_
      obtain ⟨g7, h⟩ := gf_if_ok h
      refine gw_lald C hW o_q5 g7 gd_Model_multiply_66 ?_
      refine lv_aload_n hx hb gd_Model_multiply_67 rfl (lv_at hl 0 rfl) ?_
      obtain ⟨q8, e9, h⟩ := gf_nn_ok h
      refine gw_getr (k := 48) (ty := 11) (ref := R_Model) C hW o_t0 (by decide) rfl gi_Model rfl (by decide) rfl rfl gk_526 gd_Model_multiply_68 e9 ?_
      have o_q8 := hW.ref (d := 11) o_t0 e9 rfl
      refine lv_sipush (v := 256) hx hb gd_Model_multiply_71 (by decide) ?_
      refine lv_iload_n hx hb gd_Model_multiply_74 rfl (lv_at hl 2 rfl) ?_
      refine lv_imul hx hb gd_Model_multiply_75 ?_
      refine lv_iload hx hb gd_Model_multiply_76 (lv_at hl 6 rfl) ?_
      refine lv_iadd hx hb gd_Model_multiply_78 ?_
      obtain ⟨g10, h⟩ := gf_if_ok h
      refine gw_lald C hW o_q8 g10 gd_Model_multiply_79 ?_
      refine lv_aload_n hx hb gd_Model_multiply_80 rfl (lv_at hl 0 rfl) ?_
      obtain ⟨q11, e12, h⟩ := gf_nn_ok h
      refine gw_getr (k := 48) (ty := 11) (ref := R_Model) C hW o_t0 (by decide) rfl gi_Model rfl (by decide) rfl rfl gk_526 gd_Model_multiply_81 e12 ?_
      have o_q11 := hW.ref (d := 11) o_t0 e12 rfl
      refine lv_sipush (v := 256) hx hb gd_Model_multiply_84 (by decide) ?_
      refine lv_iload_n hx hb gd_Model_multiply_87 rfl (lv_at hl 3 rfl) ?_
      refine lv_imul hx hb gd_Model_multiply_88 ?_
      refine lv_iload hx hb gd_Model_multiply_89 (lv_at hl 7 rfl) ?_
      refine lv_iadd hx hb gd_Model_multiply_91 ?_
      obtain ⟨g13, h⟩ := gf_if_ok h
      refine gw_lald C hW o_q11 g13 gd_Model_multiply_92 ?_
      refine lv_lmul hx hb gd_Model_multiply_93 ?_
      refine lv_ladd hx hb gd_Model_multiply_94 ?_
      obtain ⟨g14, h⟩ := gf_if_ok h
      refine gw_last C hW o_q5 g14 gd_Model_multiply_95 (fun u15 H locs e16 hW => ?_)
      have h := gf_nm_ok e16 h
      obtain ⟨a17, e18⟩ : ∃ y : Int32, y = x7 + 1 := ⟨_, rfl⟩
      have h := gf_nm_ok e18 h
      refine lv_iinc (v := a17) (lv' := [(7, .int a17), (0, .ref (hs t0)), (1, .int x1), (2, .int x2), (3, .int x3), (4, .int x4), (5, .int x5), (6, .int x6)]) hx hb gd_Model_multiply_96 hl (k := 7) rfl (by rw [e18]; rfl) (by decide) rfl (fun ls hl => ?_)
      refine lv_goto (tgt := 32) hx hb gd_Model_multiply_99 (by decide) ?_
      exact k_32 u15 t0 x1 x2 x3 x4 x5 x6 a17 _ _ _ o_t0 hW (lv_sub hl [1, 2, 3, 4, 5, 6, 7, 0] rfl) h
set_option maxHeartbeats 4000000 in
set_option maxRecDepth 20000 in
theorem gx_Model_multiply_L32 {p : Program} {l : Launch} {e : Env} {s : State} {m : MethodId} {args : Array Value} {below : List Frame} {meth : Method} {c : Code} {D : va_G} {cA : Nat → ClassId} {hs : Nat → Nat} {z : gw_Sh} (F : Nat) {r0 : gw_St} (C : gw_Cx p s m args c gb_Model_multiply 8 R_Model D cA) (hr : meth.sig.returnType = none) (hk : meth.locks = false) {rc_22 : gw_St → Nat → Int32 → Int32 → Int32 → Int32 → Int32 → Int32 → Option gw_St} (k_22 : ∀ (u : gw_St) (t0 : Nat) (x1 : Int32) (x2 : Int32) (x3 : Int32) (x4 : Int32) (x5 : Int32) (x6 : Int32) (H : Heap) (locs : List Loc) (ls : Array Slot), gw_ok z t0 9 → gw_Wx D cA hs z s u H locs → lv_has ls 8 [(0, .ref (hs t0)), (1, .int x1), (2, .int x2), (3, .int x3), (4, .int x4), (5, .int x5), (6, .int x6)] → rc_22 u t0 x1 x2 x3 x4 x5 x6 = some r0 → gw_Gv p l e gr_Model_multiply s m args below meth c D cA hs z r0 H locs ls 22 []) : ∀ (n : Nat), ∀ (u : gw_St) (t0 : Nat) (x1 : Int32) (x2 : Int32) (x3 : Int32) (x4 : Int32) (x5 : Int32) (x6 : Int32) (x7 : Int32) (H : Heap) (locs : List Loc) (ls : Array Slot), gw_ok z t0 9 → gw_Wx D cA hs z s u H locs → lv_has ls 8 [(0, .ref (hs t0)), (1, .int x1), (2, .int x2), (3, .int x3), (4, .int x4), (5, .int x5), (6, .int x6), (7, .int x7)] → gf_Model_multiply_L32 F z rc_22 n u t0 x1 x2 x3 x4 x5 x6 x7 = some r0 → gw_Gv p l e gr_Model_multiply s m args below meth c D cA hs z r0 H locs ls 32 [] := by
  intro n
  induction n with
  | zero =>
    intro u t0 x1 x2 x3 x4 x5 x6 x7 H locs ls o_t0 hW hl h
    cases h
  | succ n ih =>
    intro u t0 x1 x2 x3 x4 x5 x6 x7 H locs ls o_t0 hW hl h
    exact gx_Model_multiply_S32 F C hr hk k_22 ih u t0 x1 x2 x3 x4 x5 x6 x7 o_t0 hW hl h

set_option maxHeartbeats 4000000 in
set_option maxRecDepth 20000 in
theorem gx_Model_multiply_S22 {p : Program} {l : Launch} {e : Env} {s : State} {m : MethodId} {args : Array Value} {below : List Frame} {meth : Method} {c : Code} {D : va_G} {cA : Nat → ClassId} {hs : Nat → Nat} {z : gw_Sh} (F : Nat) {r0 : gw_St} (C : gw_Cx p s m args c gb_Model_multiply 8 R_Model D cA) (hr : meth.sig.returnType = none) (hk : meth.locks = false) {rc_22 : gw_St → Nat → Int32 → Int32 → Int32 → Int32 → Int32 → Int32 → Option gw_St} (k_22 : ∀ (u : gw_St) (t0 : Nat) (x1 : Int32) (x2 : Int32) (x3 : Int32) (x4 : Int32) (x5 : Int32) (x6 : Int32) (H : Heap) (locs : List Loc) (ls : Array Slot), gw_ok z t0 9 → gw_Wx D cA hs z s u H locs → lv_has ls 8 [(0, .ref (hs t0)), (1, .int x1), (2, .int x2), (3, .int x3), (4, .int x4), (5, .int x5), (6, .int x6)] → rc_22 u t0 x1 x2 x3 x4 x5 x6 = some r0 → gw_Gv p l e gr_Model_multiply s m args below meth c D cA hs z r0 H locs ls 22 []) (u : gw_St) (t0 : Nat) (x1 : Int32) (x2 : Int32) (x3 : Int32) (x4 : Int32) (x5 : Int32) (x6 : Int32) (o_t0 : gw_ok z t0 9) {H : Heap} {locs : List Loc} {ls : Array Slot} (hW : gw_Wx D cA hs z s u H locs) (hl : lv_has ls 8 [(0, .ref (hs t0)), (1, .int x1), (2, .int x2), (3, .int x3), (4, .int x4), (5, .int x5), (6, .int x6)]) (h : gf_Model_multiply_S22 F z  rc_22 u t0 x1 x2 x3 x4 x5 x6 = some r0) : gw_Gv p l e gr_Model_multiply s m args below meth c D cA hs z r0 H locs ls 22 [] := by
  obtain ⟨hx, hb, hml, hown, hts, hK⟩ := id C
  unfold gf_Model_multiply_S22 at h
  refine lv_iload hx hb gd_Model_multiply_22 (lv_at hl 6 rfl) ?_
  refine lv_iload hx hb gd_Model_multiply_24 (lv_at hl 4 rfl) ?_
  refine lv_icmp_ge (tgt := 108) hx hb gd_Model_multiply_26 (by decide) (fun c19 => ?_) (fun c19 => ?_)
  · have h := gf_t c19 h
    refine lv_aload_n hx hb gd_Model_multiply_108 rfl (lv_at hl 0 rfl) ?_
    refine lv_iload_n hx hb gd_Model_multiply_109 rfl (lv_at hl 1 rfl) ?_
    obtain ⟨u20, d21, h⟩ := gf_bd_ok h
    refine gw_callVv (K := R_Model) (As := [.int x1]) (rest := []) C hW (fun _ h => Or.inr h) hl.1 gm_Model_settle (gc_Model_settle l F o_t0 d21 _) gk_541 gk_542 gk_543 o_t0 (by decide) rfl rfl rfl ⟨Nat.le_of_ble_eq_true rfl, Nat.le_of_ble_eq_true rfl⟩ ⟨Nat.zero_le _, Nat.zero_le _⟩ rfl rfl (Nat.le_of_ble_eq_true rfl) gd_Model_multiply_110 (fun H locs hW => ?_)
    obtain rfl := Option.some.inj h
    exact gw_vret C hW hr hk gd_Model_multiply_113
  · have h := gf_f c19 h
    refine lv_iconst (v := 0) hx hb gd_Model_multiply_29 (by decide) ?_
    refine lv_istore (lv' := [(7, .int 0), (0, .ref (hs t0)), (1, .int x1), (2, .int x2), (3, .int x3), (4, .int x4), (5, .int x5), (6, .int x6)]) hx hb gd_Model_multiply_30 hl (by decide) rfl (fun ls hl => ?_)
    exact gx_Model_multiply_L32 F C hr hk k_22 F u t0 x1 x2 x3 x4 x5 x6 0 _ _ _ o_t0 hW (lv_sub hl [1, 2, 3, 4, 5, 6, 7, 0] rfl) h
set_option maxHeartbeats 4000000 in
set_option maxRecDepth 20000 in
theorem gx_Model_multiply_L22 {p : Program} {l : Launch} {e : Env} {s : State} {m : MethodId} {args : Array Value} {below : List Frame} {meth : Method} {c : Code} {D : va_G} {cA : Nat → ClassId} {hs : Nat → Nat} {z : gw_Sh} (F : Nat) {r0 : gw_St} (C : gw_Cx p s m args c gb_Model_multiply 8 R_Model D cA) (hr : meth.sig.returnType = none) (hk : meth.locks = false) : ∀ (n : Nat), ∀ (u : gw_St) (t0 : Nat) (x1 : Int32) (x2 : Int32) (x3 : Int32) (x4 : Int32) (x5 : Int32) (x6 : Int32) (H : Heap) (locs : List Loc) (ls : Array Slot), gw_ok z t0 9 → gw_Wx D cA hs z s u H locs → lv_has ls 8 [(0, .ref (hs t0)), (1, .int x1), (2, .int x2), (3, .int x3), (4, .int x4), (5, .int x5), (6, .int x6)] → gf_Model_multiply_L22 F z  n u t0 x1 x2 x3 x4 x5 x6 = some r0 → gw_Gv p l e gr_Model_multiply s m args below meth c D cA hs z r0 H locs ls 22 [] := by
  intro n
  induction n with
  | zero =>
    intro u t0 x1 x2 x3 x4 x5 x6 H locs ls o_t0 hW hl h
    cases h
  | succ n ih =>
    intro u t0 x1 x2 x3 x4 x5 x6 H locs ls o_t0 hW hl h
    exact gx_Model_multiply_S22 F C hr hk  ih u t0 x1 x2 x3 x4 x5 x6 o_t0 hW hl h

set_option maxHeartbeats 4000000 in
set_option maxRecDepth 20000 in
theorem gx_Model_multiply_b0 {p : Program} {l : Launch} {e : Env} {s : State} {m : MethodId} {args : Array Value} {below : List Frame} {meth : Method} {c : Code} {D : va_G} {cA : Nat → ClassId} {hs : Nat → Nat} {z : gw_Sh} (F : Nat) {r0 : gw_St} (C : gw_Cx p s m args c gb_Model_multiply 8 R_Model D cA) (hr : meth.sig.returnType = none) (hk : meth.locks = false) (u : gw_St) (t0 : Nat) (x1 : Int32) (x2 : Int32) (x3 : Int32) (o_t0 : gw_ok z t0 9) {H : Heap} {locs : List Loc} {ls : Array Slot} (hW : gw_Wx D cA hs z s u H locs) (hl : lv_has ls 8 [(0, .ref (hs t0)), (1, .int x1), (2, .int x2), (3, .int x3)]) (h : gf_Model_multiply_b0 F z   u t0 x1 x2 x3 = some r0) : gw_Gv p l e gr_Model_multiply s m args below meth c D cA hs z r0 H locs ls 0 [] := by
  obtain ⟨hx, hb, hml, hown, hts, hK⟩ := id C
  unfold gf_Model_multiply_b0 at h
  refine lv_aload_n hx hb gd_Model_multiply_0 rfl (lv_at hl 0 rfl) ?_
  refine lv_iload_n hx hb gd_Model_multiply_1 rfl (lv_at hl 1 rfl) ?_
  obtain ⟨u22, d23, h⟩ := gf_bd_ok h
  refine gw_callVv (K := R_Model) (As := [.int x1]) (rest := []) C hW (fun _ h => Or.inr h) hl.1 gm_Model_clearWide (gc_Model_clearWide l F o_t0 d23 _) gk_535 gk_536 gk_537 o_t0 (by decide) rfl rfl rfl ⟨Nat.le_of_ble_eq_true rfl, Nat.le_of_ble_eq_true rfl⟩ ⟨Nat.zero_le _, Nat.zero_le _⟩ rfl rfl (Nat.le_of_ble_eq_true rfl) gd_Model_multiply_2 (fun H locs hW => ?_)
  refine lv_aload_n hx hb gd_Model_multiply_5 rfl (lv_at hl 0 rfl) ?_
  refine lv_iload_n hx hb gd_Model_multiply_6 rfl (lv_at hl 2 rfl) ?_
  obtain ⟨a26, u24, d25, h⟩ := gf_cl_ok h
  refine gw_callVi (K := R_Model) (As := [.int x2]) (rest := []) C hW (fun _ h => Or.inr h) hl.1 gm_Model_size (gc_Model_size l F o_t0 d25 _) gk_530 gk_531 gk_532 o_t0 (by decide) rfl rfl rfl ⟨Nat.le_of_ble_eq_true rfl, Nat.le_of_ble_eq_true rfl⟩ ⟨Nat.zero_le _, Nat.zero_le _⟩ rfl rfl (Nat.le_of_ble_eq_true rfl) gd_Model_multiply_7 (fun H locs hW => ?_)
  refine lv_istore (lv' := [(4, .int a26), (0, .ref (hs t0)), (1, .int x1), (2, .int x2), (3, .int x3)]) hx hb gd_Model_multiply_10 hl (by decide) rfl (fun ls hl => ?_)
  refine lv_aload_n hx hb gd_Model_multiply_12 rfl (lv_at hl 1 rfl) ?_
  refine lv_iload_n hx hb gd_Model_multiply_13 rfl (lv_at hl 4 rfl) ?_
  obtain ⟨a29, u27, d28, h⟩ := gf_cl_ok h
  refine gw_callVi (K := R_Model) (As := [.int x3]) (rest := []) C hW (fun _ h => Or.inr h) hl.1 gm_Model_size (gc_Model_size l F o_t0 d28 _) gk_530 gk_531 gk_532 o_t0 (by decide) rfl rfl rfl ⟨Nat.le_of_ble_eq_true rfl, Nat.le_of_ble_eq_true rfl⟩ ⟨Nat.zero_le _, Nat.zero_le _⟩ rfl rfl (Nat.le_of_ble_eq_true rfl) gd_Model_multiply_14 (fun H locs hW => ?_)
  refine lv_istore (lv' := [(5, .int a29), (4, .int a26), (0, .ref (hs t0)), (1, .int x1), (2, .int x2), (3, .int x3)]) hx hb gd_Model_multiply_17 hl (by decide) rfl (fun ls hl => ?_)
  refine lv_iconst (v := 0) hx hb gd_Model_multiply_19 (by decide) ?_
  refine lv_istore (lv' := [(6, .int 0), (5, .int a29), (4, .int a26), (0, .ref (hs t0)), (1, .int x1), (2, .int x2), (3, .int x3)]) hx hb gd_Model_multiply_20 hl (by decide) rfl (fun ls hl => ?_)
  exact gx_Model_multiply_L22 F C hr hk  F u27 t0 x1 x2 x3 a26 a29 0 _ _ _ o_t0 hW (lv_sub hl [3, 4, 5, 6, 2, 1, 0] rfl) h

set_option maxRecDepth 20000 in
theorem gc_Model_multiply (l : Launch) {D : va_G} {cA : Nat → ClassId} {hs : Nat → Nat} {z : gw_Sh} (F : Nat) {u : gw_St} {r0 : gw_St} {t0 : Nat} {x1 : Int32} {x2 : Int32} {x3 : Int32} (o_t0 : gw_ok z t0 9) (h : gf_Model_multiply F z u t0 x1 x2 x3 = some r0) (sz : Nat) : gw_Mv l gy_Model_multiply gb_Model_multiply 8 none gr_Model_multiply [.ref (hs t0), .int x1, .int x2, .int x3] D cA hs z u sz r0 := by
  refine gw_enter (by decide) (Nat.le_of_ble_eq_true rfl) ?_
  intro p e s m below meth c ls hsz C hW hr hk _ hl
  subst hsz
  exact gx_Model_multiply_b0 F C hr hk u t0 x1 x2 x3 o_t0 hW (lv_sub hl [0, 1, 2, 3] rfl) h
-- GearDeskModel.timesSmall(IJ)V
def gy_Model_timesSmall : MethodName := ⟨R_Model, "timesSmall", "(IJ)V"⟩
abbrev gb_Model_timesSmall : ByteArray := prog_11_method_52_code
theorem gk_546 : Cond.code gy_Model_timesSmall gb_Model_timesSmall 9 none ∈ gt_T := gt_m7 (List.mem_of_getElem? (i := 154) rfl) rfl
def gr_Model_timesSmall : Room := gw_rm 1 64
theorem gm_Model_timesSmall : gw_Mth gy_Model_timesSmall gb_Model_timesSmall 9 none 2 := ⟨gk_546, gk_377, ⟨by decide +kernel, by decide +kernel⟩, by decide +kernel⟩
theorem gd_Model_timesSmall_0 : decode gb_Model_timesSmall 0 = .ok (.lconst 0, 1) := by decide +kernel
theorem gd_Model_timesSmall_1 : decode gb_Model_timesSmall 1 = .ok (.lstore 4, 2) := by decide +kernel
theorem gd_Model_timesSmall_3 : decode gb_Model_timesSmall 3 = .ok (.sipush 256, 3) := by decide +kernel
theorem gd_Model_timesSmall_6 : decode gb_Model_timesSmall 6 = .ok (.iload_n 1, 1) := by decide +kernel
theorem gd_Model_timesSmall_7 : decode gb_Model_timesSmall 7 = .ok (.imul, 1) := by decide +kernel
theorem gd_Model_timesSmall_8 : decode gb_Model_timesSmall 8 = .ok (.istore 6, 2) := by decide +kernel
theorem gd_Model_timesSmall_10 : decode gb_Model_timesSmall 10 = .ok (.iload 6, 2) := by decide +kernel
theorem gd_Model_timesSmall_12 : decode gb_Model_timesSmall 12 = .ok (.sipush 256, 3) := by decide +kernel
theorem gd_Model_timesSmall_15 : decode gb_Model_timesSmall 15 = .ok (.iload_n 1, 1) := by decide +kernel
theorem gd_Model_timesSmall_16 : decode gb_Model_timesSmall 16 = .ok (.imul, 1) := by decide +kernel
theorem gd_Model_timesSmall_17 : decode gb_Model_timesSmall 17 = .ok (.sipush 256, 3) := by decide +kernel
theorem gd_Model_timesSmall_20 : decode gb_Model_timesSmall 20 = .ok (.iadd, 1) := by decide +kernel
theorem gd_Model_timesSmall_21 : decode gb_Model_timesSmall 21 = .ok (.if_icmp .ge 43, 3) := by decide +kernel
theorem gd_Model_timesSmall_24 : decode gb_Model_timesSmall 24 = .ok (.aload_n 0, 1) := by decide +kernel
theorem gd_Model_timesSmall_25 : decode gb_Model_timesSmall 25 = .ok (.getfield 104, 3) := by decide +kernel
theorem gd_Model_timesSmall_28 : decode gb_Model_timesSmall 28 = .ok (.iload 6, 2) := by decide +kernel
theorem gd_Model_timesSmall_30 : decode gb_Model_timesSmall 30 = .ok (.laload, 1) := by decide +kernel
theorem gd_Model_timesSmall_31 : decode gb_Model_timesSmall 31 = .ok (.lload_n 2, 1) := by decide +kernel
theorem gd_Model_timesSmall_32 : decode gb_Model_timesSmall 32 = .ok (.lmul, 1) := by decide +kernel
theorem gd_Model_timesSmall_33 : decode gb_Model_timesSmall 33 = .ok (.lload 4, 2) := by decide +kernel
theorem gd_Model_timesSmall_35 : decode gb_Model_timesSmall 35 = .ok (.ladd, 1) := by decide +kernel
theorem gd_Model_timesSmall_36 : decode gb_Model_timesSmall 36 = .ok (.lstore 7, 2) := by decide +kernel
theorem gd_Model_timesSmall_38 : decode gb_Model_timesSmall 38 = .ok (.aload_n 0, 1) := by decide +kernel
theorem gd_Model_timesSmall_39 : decode gb_Model_timesSmall 39 = .ok (.getfield 104, 3) := by decide +kernel
theorem gd_Model_timesSmall_42 : decode gb_Model_timesSmall 42 = .ok (.iload 6, 2) := by decide +kernel
theorem gd_Model_timesSmall_44 : decode gb_Model_timesSmall 44 = .ok (.lload 7, 2) := by decide +kernel
theorem gd_Model_timesSmall_46 : decode gb_Model_timesSmall 46 = .ok (.ldc2_w 267, 3) := by decide +kernel
theorem gd_Model_timesSmall_49 : decode gb_Model_timesSmall 49 = .ok (.land, 1) := by decide +kernel
theorem gd_Model_timesSmall_50 : decode gb_Model_timesSmall 50 = .ok (.lastore, 1) := by decide +kernel
theorem gd_Model_timesSmall_51 : decode gb_Model_timesSmall 51 = .ok (.lload 7, 2) := by decide +kernel
theorem gd_Model_timesSmall_53 : decode gb_Model_timesSmall 53 = .ok (.bipush 16, 2) := by decide +kernel
theorem gd_Model_timesSmall_55 : decode gb_Model_timesSmall 55 = .ok (.lshr, 1) := by decide +kernel
theorem gd_Model_timesSmall_56 : decode gb_Model_timesSmall 56 = .ok (.lstore 4, 2) := by decide +kernel
theorem gd_Model_timesSmall_58 : decode gb_Model_timesSmall 58 = .ok (.iinc 6 1, 3) := by decide +kernel
theorem gd_Model_timesSmall_61 : decode gb_Model_timesSmall 61 = .ok (.goto (-51), 3) := by decide +kernel
theorem gd_Model_timesSmall_64 : decode gb_Model_timesSmall 64 = .ok (.return_, 1) := by decide +kernel
def gf_Model_timesSmall_S10 (F : Nat) (z : gw_Sh)  (rc_10 : gw_St → Nat → Int32 → Int64 → Int64 → Int32 → Option gw_St) (u : gw_St) (t0 : Nat) (x1 : Int32) (y2 : Int64) (y4 : Int64) (x6 : Int32) : Option gw_St :=
  if (((256 : Int32) * x1) + (256 : Int32)) ≤ x6 then (some u) else (gf_nn (u.2.2 t0 48) fun q2 => if (x6 < 0 ∨ z.2.2 q2 ≤ (x6).toNatClampNeg) then none else gf_nm (((u.2.1 q2 (x6).toNatClampNeg) * y2) + y4) fun a5 => gf_nn (u.2.2 t0 48) fun q7 => if (x6 < 0 ∨ z.2.2 q7 ≤ (x6).toNatClampNeg) then none else gf_nm (gw_wl u q7 (x6).toNatClampNeg (a5 &&& (65535 : Int64))) fun u10 => gf_nm (a5 >>> (((16 : Int32)).toInt64 &&& 63)) fun a12 => gf_nm (x6 + 1) fun a14 => rc_10 u10 t0 x1 y2 a12 a14)
def gf_Model_timesSmall_L10 (F : Nat) (z : gw_Sh)  : Nat → gw_St → Nat → Int32 → Int64 → Int64 → Int32 → Option gw_St
  | 0 => fun _ _ _ _ _ _ => none
  | n + 1 => fun u t0 x1 y2 y4 x6 => gf_Model_timesSmall_S10 F z  (gf_Model_timesSmall_L10 F z  n) u t0 x1 y2 y4 x6
def gf_Model_timesSmall_b0 (F : Nat) (z : gw_Sh)  (u : gw_St) (t0 : Nat) (x1 : Int32) (y2 : Int64) : Option gw_St :=
  gf_nm ((256 : Int32) * x1) fun a16 => gf_Model_timesSmall_L10 F z  F u t0 x1 y2 0 a16
def gf_Model_timesSmall (F : Nat) (z : gw_Sh) (u : gw_St) (t0 : Nat) (x1 : Int32) (y2 : Int64) : Option gw_St := gf_Model_timesSmall_b0 F z  u t0 x1 y2
set_option maxHeartbeats 4000000 in
set_option maxRecDepth 20000 in
theorem gx_Model_timesSmall_S10 {p : Program} {l : Launch} {e : Env} {s : State} {m : MethodId} {args : Array Value} {below : List Frame} {meth : Method} {c : Code} {D : va_G} {cA : Nat → ClassId} {hs : Nat → Nat} {z : gw_Sh} (F : Nat) {r0 : gw_St} (C : gw_Cx p s m args c gb_Model_timesSmall 9 R_Model D cA) (hr : meth.sig.returnType = none) (hk : meth.locks = false) {rc_10 : gw_St → Nat → Int32 → Int64 → Int64 → Int32 → Option gw_St} (k_10 : ∀ (u : gw_St) (t0 : Nat) (x1 : Int32) (y2 : Int64) (y4 : Int64) (x6 : Int32) (H : Heap) (locs : List Loc) (ls : Array Slot), gw_ok z t0 9 → gw_Wx D cA hs z s u H locs → lv_has ls 9 [(0, .ref (hs t0)), (1, .int x1), (2, .long y2), (4, .long y4), (6, .int x6)] → rc_10 u t0 x1 y2 y4 x6 = some r0 → gw_Gv p l e gr_Model_timesSmall s m args below meth c D cA hs z r0 H locs ls 10 []) (u : gw_St) (t0 : Nat) (x1 : Int32) (y2 : Int64) (y4 : Int64) (x6 : Int32) (o_t0 : gw_ok z t0 9) {H : Heap} {locs : List Loc} {ls : Array Slot} (hW : gw_Wx D cA hs z s u H locs) (hl : lv_has ls 9 [(0, .ref (hs t0)), (1, .int x1), (2, .long y2), (4, .long y4), (6, .int x6)]) (h : gf_Model_timesSmall_S10 F z  rc_10 u t0 x1 y2 y4 x6 = some r0) : gw_Gv p l e gr_Model_timesSmall s m args below meth c D cA hs z r0 H locs ls 10 [] := by
  obtain ⟨hx, hb, hml, hown, hts, hK⟩ := id C
  unfold gf_Model_timesSmall_S10 at h
  refine lv_iload hx hb gd_Model_timesSmall_10 (lv_at hl 4 rfl) ?_
  refine lv_sipush (v := 256) hx hb gd_Model_timesSmall_12 (by decide) ?_
  refine lv_iload_n hx hb gd_Model_timesSmall_15 rfl (lv_at hl 1 rfl) ?_
  refine lv_imul hx hb gd_Model_timesSmall_16 ?_
  refine lv_sipush (v := 256) hx hb gd_Model_timesSmall_17 (by decide) ?_
  refine lv_iadd hx hb gd_Model_timesSmall_20 ?_
  refine lv_icmp_ge (tgt := 64) hx hb gd_Model_timesSmall_21 (by decide) (fun c1 => ?_) (fun c1 => ?_)
  · have h := gf_t c1 h
    obtain rfl := Option.some.inj h
    exact gw_vret C hW hr hk gd_Model_timesSmall_64
  · have h := gf_f c1 h
    refine lv_aload_n hx hb gd_Model_timesSmall_24 rfl (lv_at hl 0 rfl) ?_
    obtain ⟨q2, e3, h⟩ := gf_nn_ok h
    refine gw_getr (k := 48) (ty := 11) (ref := R_Model) C hW o_t0 (by decide) rfl gi_Model rfl (by decide) rfl rfl gk_526 gd_Model_timesSmall_25 e3 ?_
    have o_q2 := hW.ref (d := 11) o_t0 e3 rfl
    refine lv_iload hx hb gd_Model_timesSmall_28 (lv_at hl 4 rfl) ?_
    obtain ⟨g4, h⟩ := gf_if_ok h
    refine gw_lald C hW o_q2 g4 gd_Model_timesSmall_30 ?_
    refine lv_lload_n hx hb gd_Model_timesSmall_31 rfl (lv_at hl 2 rfl) ?_
    refine lv_lmul hx hb gd_Model_timesSmall_32 ?_
    refine lv_lload hx hb gd_Model_timesSmall_33 (lv_at hl 3 rfl) ?_
    refine lv_ladd hx hb gd_Model_timesSmall_35 ?_
    refine lv_topl (fun a5 e6 => ?_)
    have h := gf_nm_ok e6 h
    refine lv_lstore (lv' := [(7, .long a5), (0, .ref (hs t0)), (1, .int x1), (2, .long y2), (4, .long y4), (6, .int x6)]) hx hb gd_Model_timesSmall_36 hl (by decide) rfl (fun ls hl => ?_)
    refine lv_aload_n hx hb gd_Model_timesSmall_38 rfl (lv_at hl 1 rfl) ?_
    obtain ⟨q7, e8, h⟩ := gf_nn_ok h
    refine gw_getr (k := 48) (ty := 11) (ref := R_Model) C hW o_t0 (by decide) rfl gi_Model rfl (by decide) rfl rfl gk_526 gd_Model_timesSmall_39 e8 ?_
    have o_q7 := hW.ref (d := 11) o_t0 e8 rfl
    refine lv_iload hx hb gd_Model_timesSmall_42 (lv_at hl 5 rfl) ?_
    refine lv_lload hx hb gd_Model_timesSmall_44 (lv_at hl 0 rfl) ?_
    refine lv_ldc2 (v := 65535) hx hb hown (hts _ gk_534) gd_Model_timesSmall_46 ?_
    refine lv_land hx hb gd_Model_timesSmall_49 ?_
    obtain ⟨g9, h⟩ := gf_if_ok h
    refine gw_last C hW o_q7 g9 gd_Model_timesSmall_50 (fun u10 H locs e11 hW => ?_)
    have h := gf_nm_ok e11 h
    refine lv_lload hx hb gd_Model_timesSmall_51 (lv_at hl 0 rfl) ?_
    refine lv_bipush (v := 16) hx hb gd_Model_timesSmall_53 (by decide) ?_
    refine lv_lshr hx hb gd_Model_timesSmall_55 rfl ?_
    refine lv_topl (fun a12 e13 => ?_)
    have h := gf_nm_ok e13 h
    refine lv_lstore (lv' := [(4, .long a12), (7, .long a5), (0, .ref (hs t0)), (1, .int x1), (2, .long y2), (6, .int x6)]) hx hb gd_Model_timesSmall_56 hl (by decide) rfl (fun ls hl => ?_)
    obtain ⟨a14, e15⟩ : ∃ y : Int32, y = x6 + 1 := ⟨_, rfl⟩
    have h := gf_nm_ok e15 h
    refine lv_iinc (v := a14) (lv' := [(6, .int a14), (4, .long a12), (7, .long a5), (0, .ref (hs t0)), (1, .int x1), (2, .long y2)]) hx hb gd_Model_timesSmall_58 hl (k := 5) rfl (by rw [e15]; rfl) (by decide) rfl (fun ls hl => ?_)
    refine lv_goto (tgt := 10) hx hb gd_Model_timesSmall_61 (by decide) ?_
    exact k_10 u10 t0 x1 y2 a12 a14 _ _ _ o_t0 hW (lv_sub hl [3, 4, 5, 1, 0] rfl) h
set_option maxHeartbeats 4000000 in
set_option maxRecDepth 20000 in
theorem gx_Model_timesSmall_L10 {p : Program} {l : Launch} {e : Env} {s : State} {m : MethodId} {args : Array Value} {below : List Frame} {meth : Method} {c : Code} {D : va_G} {cA : Nat → ClassId} {hs : Nat → Nat} {z : gw_Sh} (F : Nat) {r0 : gw_St} (C : gw_Cx p s m args c gb_Model_timesSmall 9 R_Model D cA) (hr : meth.sig.returnType = none) (hk : meth.locks = false) : ∀ (n : Nat), ∀ (u : gw_St) (t0 : Nat) (x1 : Int32) (y2 : Int64) (y4 : Int64) (x6 : Int32) (H : Heap) (locs : List Loc) (ls : Array Slot), gw_ok z t0 9 → gw_Wx D cA hs z s u H locs → lv_has ls 9 [(0, .ref (hs t0)), (1, .int x1), (2, .long y2), (4, .long y4), (6, .int x6)] → gf_Model_timesSmall_L10 F z  n u t0 x1 y2 y4 x6 = some r0 → gw_Gv p l e gr_Model_timesSmall s m args below meth c D cA hs z r0 H locs ls 10 [] := by
  intro n
  induction n with
  | zero =>
    intro u t0 x1 y2 y4 x6 H locs ls o_t0 hW hl h
    cases h
  | succ n ih =>
    intro u t0 x1 y2 y4 x6 H locs ls o_t0 hW hl h
    exact gx_Model_timesSmall_S10 F C hr hk  ih u t0 x1 y2 y4 x6 o_t0 hW hl h

set_option maxHeartbeats 4000000 in
set_option maxRecDepth 20000 in
theorem gx_Model_timesSmall_b0 {p : Program} {l : Launch} {e : Env} {s : State} {m : MethodId} {args : Array Value} {below : List Frame} {meth : Method} {c : Code} {D : va_G} {cA : Nat → ClassId} {hs : Nat → Nat} {z : gw_Sh} (F : Nat) {r0 : gw_St} (C : gw_Cx p s m args c gb_Model_timesSmall 9 R_Model D cA) (hr : meth.sig.returnType = none) (hk : meth.locks = false) (u : gw_St) (t0 : Nat) (x1 : Int32) (y2 : Int64) (o_t0 : gw_ok z t0 9) {H : Heap} {locs : List Loc} {ls : Array Slot} (hW : gw_Wx D cA hs z s u H locs) (hl : lv_has ls 9 [(0, .ref (hs t0)), (1, .int x1), (2, .long y2)]) (h : gf_Model_timesSmall_b0 F z   u t0 x1 y2 = some r0) : gw_Gv p l e gr_Model_timesSmall s m args below meth c D cA hs z r0 H locs ls 0 [] := by
  obtain ⟨hx, hb, hml, hown, hts, hK⟩ := id C
  unfold gf_Model_timesSmall_b0 at h
  refine lv_lconst (v := 0) hx hb gd_Model_timesSmall_0 (by decide) ?_
  refine lv_lstore (lv' := [(4, .long 0), (0, .ref (hs t0)), (1, .int x1), (2, .long y2)]) hx hb gd_Model_timesSmall_1 hl (by decide) rfl (fun ls hl => ?_)
  refine lv_sipush (v := 256) hx hb gd_Model_timesSmall_3 (by decide) ?_
  refine lv_iload_n hx hb gd_Model_timesSmall_6 rfl (lv_at hl 2 rfl) ?_
  refine lv_imul hx hb gd_Model_timesSmall_7 ?_
  refine lv_topi (fun a16 e17 => ?_)
  have h := gf_nm_ok e17 h
  refine lv_istore (lv' := [(6, .int a16), (4, .long 0), (0, .ref (hs t0)), (1, .int x1), (2, .long y2)]) hx hb gd_Model_timesSmall_8 hl (by decide) rfl (fun ls hl => ?_)
  exact gx_Model_timesSmall_L10 F C hr hk  F u t0 x1 y2 0 a16 _ _ _ o_t0 hW (lv_sub hl [2, 3, 4, 1, 0] rfl) h

set_option maxRecDepth 20000 in
theorem gc_Model_timesSmall (l : Launch) {D : va_G} {cA : Nat → ClassId} {hs : Nat → Nat} {z : gw_Sh} (F : Nat) {u : gw_St} {r0 : gw_St} {t0 : Nat} {x1 : Int32} {y2 : Int64} (o_t0 : gw_ok z t0 9) (h : gf_Model_timesSmall F z u t0 x1 y2 = some r0) (sz : Nat) : gw_Mv l gy_Model_timesSmall gb_Model_timesSmall 9 none gr_Model_timesSmall [.ref (hs t0), .int x1, .long y2] D cA hs z u sz r0 := by
  refine gw_enter (by decide) (Nat.le_of_ble_eq_true rfl) ?_
  intro p e s m below meth c ls hsz C hW hr hk _ hl
  subst hsz
  exact gx_Model_timesSmall_b0 F C hr hk u t0 x1 y2 o_t0 hW (lv_sub hl [0, 1, 2] rfl) h
-- GearDeskModel.restSmall(IJ)J
theorem gk_547 : Cond.constantLong R_Model 272 65536 ∈ gt_T := gt_m7 (List.mem_of_getElem? (i := 146) rfl) rfl
def gy_Model_restSmall : MethodName := ⟨R_Model, "restSmall", "(IJ)J"⟩
abbrev gb_Model_restSmall : ByteArray := prog_11_method_53_code
theorem gk_548 : Cond.code gy_Model_restSmall gb_Model_restSmall 7 (some .long) ∈ gt_T := gt_m7 (List.mem_of_getElem? (i := 145) rfl) rfl
def gr_Model_restSmall : Room := gw_rm 1 64
theorem gm_Model_restSmall : gw_Mth gy_Model_restSmall gb_Model_restSmall 7 (some .long) 2 := ⟨gk_548, gk_377, ⟨by decide +kernel, by decide +kernel⟩, by decide +kernel⟩
theorem gd_Model_restSmall_0 : decode gb_Model_restSmall 0 = .ok (.lconst 0, 1) := by decide +kernel
theorem gd_Model_restSmall_1 : decode gb_Model_restSmall 1 = .ok (.lstore 4, 2) := by decide +kernel
theorem gd_Model_restSmall_3 : decode gb_Model_restSmall 3 = .ok (.sipush 255, 3) := by decide +kernel
theorem gd_Model_restSmall_6 : decode gb_Model_restSmall 6 = .ok (.istore 6, 2) := by decide +kernel
theorem gd_Model_restSmall_8 : decode gb_Model_restSmall 8 = .ok (.iload 6, 2) := by decide +kernel
theorem gd_Model_restSmall_10 : decode gb_Model_restSmall 10 = .ok (.ifCond .lt 33, 3) := by decide +kernel
theorem gd_Model_restSmall_13 : decode gb_Model_restSmall 13 = .ok (.lload 4, 2) := by decide +kernel
theorem gd_Model_restSmall_15 : decode gb_Model_restSmall 15 = .ok (.ldc2_w 272, 3) := by decide +kernel
theorem gd_Model_restSmall_18 : decode gb_Model_restSmall 18 = .ok (.lmul, 1) := by decide +kernel
theorem gd_Model_restSmall_19 : decode gb_Model_restSmall 19 = .ok (.aload_n 0, 1) := by decide +kernel
theorem gd_Model_restSmall_20 : decode gb_Model_restSmall 20 = .ok (.getfield 104, 3) := by decide +kernel
theorem gd_Model_restSmall_23 : decode gb_Model_restSmall 23 = .ok (.sipush 256, 3) := by decide +kernel
theorem gd_Model_restSmall_26 : decode gb_Model_restSmall 26 = .ok (.iload_n 1, 1) := by decide +kernel
theorem gd_Model_restSmall_27 : decode gb_Model_restSmall 27 = .ok (.imul, 1) := by decide +kernel
theorem gd_Model_restSmall_28 : decode gb_Model_restSmall 28 = .ok (.iload 6, 2) := by decide +kernel
theorem gd_Model_restSmall_30 : decode gb_Model_restSmall 30 = .ok (.iadd, 1) := by decide +kernel
theorem gd_Model_restSmall_31 : decode gb_Model_restSmall 31 = .ok (.laload, 1) := by decide +kernel
theorem gd_Model_restSmall_32 : decode gb_Model_restSmall 32 = .ok (.ladd, 1) := by decide +kernel
theorem gd_Model_restSmall_33 : decode gb_Model_restSmall 33 = .ok (.lload_n 2, 1) := by decide +kernel
theorem gd_Model_restSmall_34 : decode gb_Model_restSmall 34 = .ok (.lrem, 1) := by decide +kernel
theorem gd_Model_restSmall_35 : decode gb_Model_restSmall 35 = .ok (.lstore 4, 2) := by decide +kernel
theorem gd_Model_restSmall_37 : decode gb_Model_restSmall 37 = .ok (.iinc 6 (-1), 3) := by decide +kernel
theorem gd_Model_restSmall_40 : decode gb_Model_restSmall 40 = .ok (.goto (-32), 3) := by decide +kernel
theorem gd_Model_restSmall_43 : decode gb_Model_restSmall 43 = .ok (.lload 4, 2) := by decide +kernel
theorem gd_Model_restSmall_45 : decode gb_Model_restSmall 45 = .ok (.lreturn, 1) := by decide +kernel
def gf_Model_restSmall_S8 (F : Nat) (z : gw_Sh)  (rc_8 : gw_St → Nat → Int32 → Int64 → Int64 → Int32 → Option (Int64 × gw_St)) (u : gw_St) (t0 : Nat) (x1 : Int32) (y2 : Int64) (y4 : Int64) (x6 : Int32) : Option (Int64 × gw_St) :=
  if x6 < 0 then (some (y4, u)) else (gf_nn (u.2.2 t0 48) fun q2 => if ((((256 : Int32) * x1) + x6) < 0 ∨ z.2.2 q2 ≤ ((((256 : Int32) * x1) + x6)).toNatClampNeg) then none else if y2 = 0 then none else gf_nm (((y4 * (65536 : Int64)) + (u.2.1 q2 ((((256 : Int32) * x1) + x6)).toNatClampNeg)) - ((y4 * (65536 : Int64)) + (u.2.1 q2 ((((256 : Int32) * x1) + x6)).toNatClampNeg)) / y2 * y2) fun a6 => gf_nm (x6 + (-1)) fun a8 => rc_8 u t0 x1 y2 a6 a8)
def gf_Model_restSmall_L8 (F : Nat) (z : gw_Sh)  : Nat → gw_St → Nat → Int32 → Int64 → Int64 → Int32 → Option (Int64 × gw_St)
  | 0 => fun _ _ _ _ _ _ => none
  | n + 1 => fun u t0 x1 y2 y4 x6 => gf_Model_restSmall_S8 F z  (gf_Model_restSmall_L8 F z  n) u t0 x1 y2 y4 x6
def gf_Model_restSmall_b0 (F : Nat) (z : gw_Sh)  (u : gw_St) (t0 : Nat) (x1 : Int32) (y2 : Int64) : Option (Int64 × gw_St) :=
  gf_Model_restSmall_L8 F z  F u t0 x1 y2 0 255
def gf_Model_restSmall (F : Nat) (z : gw_Sh) (u : gw_St) (t0 : Nat) (x1 : Int32) (y2 : Int64) : Option (Int64 × gw_St) := gf_Model_restSmall_b0 F z  u t0 x1 y2
set_option maxHeartbeats 4000000 in
set_option maxRecDepth 20000 in
theorem gx_Model_restSmall_S8 {p : Program} {l : Launch} {e : Env} {s : State} {m : MethodId} {args : Array Value} {below : List Frame} {meth : Method} {c : Code} {D : va_G} {cA : Nat → ClassId} {hs : Nat → Nat} {z : gw_Sh} (F : Nat) {r0 : (Int64 × gw_St)} (C : gw_Cx p s m args c gb_Model_restSmall 7 R_Model D cA) (hr : meth.sig.returnType = (some .long)) (hk : meth.locks = false) {rc_8 : gw_St → Nat → Int32 → Int64 → Int64 → Int32 → Option (Int64 × gw_St)} (k_8 : ∀ (u : gw_St) (t0 : Nat) (x1 : Int32) (y2 : Int64) (y4 : Int64) (x6 : Int32) (H : Heap) (locs : List Loc) (ls : Array Slot), gw_ok z t0 9 → gw_Wx D cA hs z s u H locs → lv_has ls 7 [(0, .ref (hs t0)), (1, .int x1), (2, .long y2), (4, .long y4), (6, .int x6)] → rc_8 u t0 x1 y2 y4 x6 = some r0 → gw_Gl p l e gr_Model_restSmall s m args below meth c D cA hs z r0 H locs ls 8 []) (u : gw_St) (t0 : Nat) (x1 : Int32) (y2 : Int64) (y4 : Int64) (x6 : Int32) (o_t0 : gw_ok z t0 9) {H : Heap} {locs : List Loc} {ls : Array Slot} (hW : gw_Wx D cA hs z s u H locs) (hl : lv_has ls 7 [(0, .ref (hs t0)), (1, .int x1), (2, .long y2), (4, .long y4), (6, .int x6)]) (h : gf_Model_restSmall_S8 F z  rc_8 u t0 x1 y2 y4 x6 = some r0) : gw_Gl p l e gr_Model_restSmall s m args below meth c D cA hs z r0 H locs ls 8 [] := by
  obtain ⟨hx, hb, hml, hown, hts, hK⟩ := id C
  unfold gf_Model_restSmall_S8 at h
  refine lv_iload hx hb gd_Model_restSmall_8 (lv_at hl 4 rfl) ?_
  refine lv_if_lt (tgt := 43) hx hb gd_Model_restSmall_10 (by decide) (fun c1 => ?_) (fun c1 => ?_)
  · have h := gf_t c1 h
    refine lv_lload hx hb gd_Model_restSmall_43 (lv_at hl 3 rfl) ?_
    obtain rfl := Option.some.inj h
    exact gw_lret C hW hr hk gd_Model_restSmall_45
  · have h := gf_f c1 h
    refine lv_lload hx hb gd_Model_restSmall_13 (lv_at hl 3 rfl) ?_
    refine lv_ldc2 (v := 65536) hx hb hown (hts _ gk_547) gd_Model_restSmall_15 ?_
    refine lv_lmul hx hb gd_Model_restSmall_18 ?_
    refine lv_aload_n hx hb gd_Model_restSmall_19 rfl (lv_at hl 0 rfl) ?_
    obtain ⟨q2, e3, h⟩ := gf_nn_ok h
    refine gw_getr (k := 48) (ty := 11) (ref := R_Model) C hW o_t0 (by decide) rfl gi_Model rfl (by decide) rfl rfl gk_526 gd_Model_restSmall_20 e3 ?_
    have o_q2 := hW.ref (d := 11) o_t0 e3 rfl
    refine lv_sipush (v := 256) hx hb gd_Model_restSmall_23 (by decide) ?_
    refine lv_iload_n hx hb gd_Model_restSmall_26 rfl (lv_at hl 1 rfl) ?_
    refine lv_imul hx hb gd_Model_restSmall_27 ?_
    refine lv_iload hx hb gd_Model_restSmall_28 (lv_at hl 4 rfl) ?_
    refine lv_iadd hx hb gd_Model_restSmall_30 ?_
    obtain ⟨g4, h⟩ := gf_if_ok h
    refine gw_lald C hW o_q2 g4 gd_Model_restSmall_31 ?_
    refine lv_ladd hx hb gd_Model_restSmall_32 ?_
    refine lv_lload_n hx hb gd_Model_restSmall_33 rfl (lv_at hl 2 rfl) ?_
    obtain ⟨g5, h⟩ := gf_if_ok h
    refine lv_lrem hx hb gd_Model_restSmall_34 g5 ?_
    refine lv_topl (fun a6 e7 => ?_)
    have h := gf_nm_ok e7 h
    refine lv_lstore (lv' := [(4, .long a6), (0, .ref (hs t0)), (1, .int x1), (2, .long y2), (6, .int x6)]) hx hb gd_Model_restSmall_35 hl (by decide) rfl (fun ls hl => ?_)
    obtain ⟨a8, e9⟩ : ∃ y : Int32, y = x6 + (-1) := ⟨_, rfl⟩
    have h := gf_nm_ok e9 h
    refine lv_iinc (v := a8) (lv' := [(6, .int a8), (4, .long a6), (0, .ref (hs t0)), (1, .int x1), (2, .long y2)]) hx hb gd_Model_restSmall_37 hl (k := 4) rfl (by rw [e9]; rfl) (by decide) rfl (fun ls hl => ?_)
    refine lv_goto (tgt := 8) hx hb gd_Model_restSmall_40 (by decide) ?_
    exact k_8 u t0 x1 y2 a6 a8 _ _ _ o_t0 hW (lv_sub hl [2, 3, 4, 1, 0] rfl) h
set_option maxHeartbeats 4000000 in
set_option maxRecDepth 20000 in
theorem gx_Model_restSmall_L8 {p : Program} {l : Launch} {e : Env} {s : State} {m : MethodId} {args : Array Value} {below : List Frame} {meth : Method} {c : Code} {D : va_G} {cA : Nat → ClassId} {hs : Nat → Nat} {z : gw_Sh} (F : Nat) {r0 : (Int64 × gw_St)} (C : gw_Cx p s m args c gb_Model_restSmall 7 R_Model D cA) (hr : meth.sig.returnType = (some .long)) (hk : meth.locks = false) : ∀ (n : Nat), ∀ (u : gw_St) (t0 : Nat) (x1 : Int32) (y2 : Int64) (y4 : Int64) (x6 : Int32) (H : Heap) (locs : List Loc) (ls : Array Slot), gw_ok z t0 9 → gw_Wx D cA hs z s u H locs → lv_has ls 7 [(0, .ref (hs t0)), (1, .int x1), (2, .long y2), (4, .long y4), (6, .int x6)] → gf_Model_restSmall_L8 F z  n u t0 x1 y2 y4 x6 = some r0 → gw_Gl p l e gr_Model_restSmall s m args below meth c D cA hs z r0 H locs ls 8 [] := by
  intro n
  induction n with
  | zero =>
    intro u t0 x1 y2 y4 x6 H locs ls o_t0 hW hl h
    cases h
  | succ n ih =>
    intro u t0 x1 y2 y4 x6 H locs ls o_t0 hW hl h
    exact gx_Model_restSmall_S8 F C hr hk  ih u t0 x1 y2 y4 x6 o_t0 hW hl h

set_option maxHeartbeats 4000000 in
set_option maxRecDepth 20000 in
theorem gx_Model_restSmall_b0 {p : Program} {l : Launch} {e : Env} {s : State} {m : MethodId} {args : Array Value} {below : List Frame} {meth : Method} {c : Code} {D : va_G} {cA : Nat → ClassId} {hs : Nat → Nat} {z : gw_Sh} (F : Nat) {r0 : (Int64 × gw_St)} (C : gw_Cx p s m args c gb_Model_restSmall 7 R_Model D cA) (hr : meth.sig.returnType = (some .long)) (hk : meth.locks = false) (u : gw_St) (t0 : Nat) (x1 : Int32) (y2 : Int64) (o_t0 : gw_ok z t0 9) {H : Heap} {locs : List Loc} {ls : Array Slot} (hW : gw_Wx D cA hs z s u H locs) (hl : lv_has ls 7 [(0, .ref (hs t0)), (1, .int x1), (2, .long y2)]) (h : gf_Model_restSmall_b0 F z   u t0 x1 y2 = some r0) : gw_Gl p l e gr_Model_restSmall s m args below meth c D cA hs z r0 H locs ls 0 [] := by
  obtain ⟨hx, hb, hml, hown, hts, hK⟩ := id C
  unfold gf_Model_restSmall_b0 at h
  refine lv_lconst (v := 0) hx hb gd_Model_restSmall_0 (by decide) ?_
  refine lv_lstore (lv' := [(4, .long 0), (0, .ref (hs t0)), (1, .int x1), (2, .long y2)]) hx hb gd_Model_restSmall_1 hl (by decide) rfl (fun ls hl => ?_)
  refine lv_sipush (v := 255) hx hb gd_Model_restSmall_3 (by decide) ?_
  refine lv_istore (lv' := [(6, .int 255), (4, .long 0), (0, .ref (hs t0)), (1, .int x1), (2, .long y2)]) hx hb gd_Model_restSmall_6 hl (by decide) rfl (fun ls hl => ?_)
  exact gx_Model_restSmall_L8 F C hr hk  F u t0 x1 y2 0 255 _ _ _ o_t0 hW (lv_sub hl [2, 3, 4, 1, 0] rfl) h

set_option maxRecDepth 20000 in
theorem gc_Model_restSmall (l : Launch) {D : va_G} {cA : Nat → ClassId} {hs : Nat → Nat} {z : gw_Sh} (F : Nat) {u : gw_St} {r0 : (Int64 × gw_St)} {t0 : Nat} {x1 : Int32} {y2 : Int64} (o_t0 : gw_ok z t0 9) (h : gf_Model_restSmall F z u t0 x1 y2 = some r0) (sz : Nat) : gw_Ml l gy_Model_restSmall gb_Model_restSmall 7 (some .long) gr_Model_restSmall [.ref (hs t0), .int x1, .long y2] D cA hs z u sz r0 := by
  refine gw_enter (by decide) (Nat.le_of_ble_eq_true rfl) ?_
  intro p e s m below meth c ls hsz C hW hr hk _ hl
  subst hsz
  exact gx_Model_restSmall_b0 F C hr hk u t0 x1 y2 o_t0 hW (lv_sub hl [0, 1, 2] rfl) h
-- GearDeskModel.twice(I)V
def gy_Model_twice : MethodName := ⟨R_Model, "twice", "(I)V"⟩
abbrev gb_Model_twice : ByteArray := prog_11_method_54_code
theorem gk_549 : Cond.code gy_Model_twice gb_Model_twice 7 none ∈ gt_T := gt_m7 (List.mem_of_getElem? (i := 178) rfl) rfl
def gr_Model_twice : Room := gw_rm 1 64
theorem gm_Model_twice : gw_Mth gy_Model_twice gb_Model_twice 7 none 1 := ⟨gk_549, gk_377, ⟨by decide +kernel, by decide +kernel⟩, by decide +kernel⟩
theorem gd_Model_twice_0 : decode gb_Model_twice 0 = .ok (.lconst 0, 1) := by decide +kernel
theorem gd_Model_twice_1 : decode gb_Model_twice 1 = .ok (.lstore_n 2, 1) := by decide +kernel
theorem gd_Model_twice_2 : decode gb_Model_twice 2 = .ok (.sipush 256, 3) := by decide +kernel
theorem gd_Model_twice_5 : decode gb_Model_twice 5 = .ok (.iload_n 1, 1) := by decide +kernel
theorem gd_Model_twice_6 : decode gb_Model_twice 6 = .ok (.imul, 1) := by decide +kernel
theorem gd_Model_twice_7 : decode gb_Model_twice 7 = .ok (.istore 4, 2) := by decide +kernel
theorem gd_Model_twice_9 : decode gb_Model_twice 9 = .ok (.iload 4, 2) := by decide +kernel
theorem gd_Model_twice_11 : decode gb_Model_twice 11 = .ok (.sipush 256, 3) := by decide +kernel
theorem gd_Model_twice_14 : decode gb_Model_twice 14 = .ok (.iload_n 1, 1) := by decide +kernel
theorem gd_Model_twice_15 : decode gb_Model_twice 15 = .ok (.imul, 1) := by decide +kernel
theorem gd_Model_twice_16 : decode gb_Model_twice 16 = .ok (.sipush 256, 3) := by decide +kernel
theorem gd_Model_twice_19 : decode gb_Model_twice 19 = .ok (.iadd, 1) := by decide +kernel
theorem gd_Model_twice_20 : decode gb_Model_twice 20 = .ok (.if_icmp .ge 43, 3) := by decide +kernel
theorem gd_Model_twice_23 : decode gb_Model_twice 23 = .ok (.ldc2_w 117, 3) := by decide +kernel
theorem gd_Model_twice_26 : decode gb_Model_twice 26 = .ok (.aload_n 0, 1) := by decide +kernel
theorem gd_Model_twice_27 : decode gb_Model_twice 27 = .ok (.getfield 104, 3) := by decide +kernel
theorem gd_Model_twice_30 : decode gb_Model_twice 30 = .ok (.iload 4, 2) := by decide +kernel
theorem gd_Model_twice_32 : decode gb_Model_twice 32 = .ok (.laload, 1) := by decide +kernel
theorem gd_Model_twice_33 : decode gb_Model_twice 33 = .ok (.lmul, 1) := by decide +kernel
theorem gd_Model_twice_34 : decode gb_Model_twice 34 = .ok (.lload_n 2, 1) := by decide +kernel
theorem gd_Model_twice_35 : decode gb_Model_twice 35 = .ok (.ladd, 1) := by decide +kernel
theorem gd_Model_twice_36 : decode gb_Model_twice 36 = .ok (.lstore 5, 2) := by decide +kernel
theorem gd_Model_twice_38 : decode gb_Model_twice 38 = .ok (.aload_n 0, 1) := by decide +kernel
theorem gd_Model_twice_39 : decode gb_Model_twice 39 = .ok (.getfield 104, 3) := by decide +kernel
theorem gd_Model_twice_42 : decode gb_Model_twice 42 = .ok (.iload 4, 2) := by decide +kernel
theorem gd_Model_twice_44 : decode gb_Model_twice 44 = .ok (.lload 5, 2) := by decide +kernel
theorem gd_Model_twice_46 : decode gb_Model_twice 46 = .ok (.ldc2_w 267, 3) := by decide +kernel
theorem gd_Model_twice_49 : decode gb_Model_twice 49 = .ok (.land, 1) := by decide +kernel
theorem gd_Model_twice_50 : decode gb_Model_twice 50 = .ok (.lastore, 1) := by decide +kernel
theorem gd_Model_twice_51 : decode gb_Model_twice 51 = .ok (.lload 5, 2) := by decide +kernel
theorem gd_Model_twice_53 : decode gb_Model_twice 53 = .ok (.bipush 16, 2) := by decide +kernel
theorem gd_Model_twice_55 : decode gb_Model_twice 55 = .ok (.lshr, 1) := by decide +kernel
theorem gd_Model_twice_56 : decode gb_Model_twice 56 = .ok (.lstore_n 2, 1) := by decide +kernel
theorem gd_Model_twice_57 : decode gb_Model_twice 57 = .ok (.iinc 4 1, 3) := by decide +kernel
theorem gd_Model_twice_60 : decode gb_Model_twice 60 = .ok (.goto (-51), 3) := by decide +kernel
theorem gd_Model_twice_63 : decode gb_Model_twice 63 = .ok (.return_, 1) := by decide +kernel
def gf_Model_twice_S9 (F : Nat) (z : gw_Sh)  (rc_9 : gw_St → Nat → Int32 → Int64 → Int32 → Option gw_St) (u : gw_St) (t0 : Nat) (x1 : Int32) (y2 : Int64) (x4 : Int32) : Option gw_St :=
  if (((256 : Int32) * x1) + (256 : Int32)) ≤ x4 then (some u) else (gf_nn (u.2.2 t0 48) fun q2 => if (x4 < 0 ∨ z.2.2 q2 ≤ (x4).toNatClampNeg) then none else gf_nm (((2 : Int64) * (u.2.1 q2 (x4).toNatClampNeg)) + y2) fun a5 => gf_nn (u.2.2 t0 48) fun q7 => if (x4 < 0 ∨ z.2.2 q7 ≤ (x4).toNatClampNeg) then none else gf_nm (gw_wl u q7 (x4).toNatClampNeg (a5 &&& (65535 : Int64))) fun u10 => gf_nm (a5 >>> (((16 : Int32)).toInt64 &&& 63)) fun a12 => gf_nm (x4 + 1) fun a14 => rc_9 u10 t0 x1 a12 a14)
def gf_Model_twice_L9 (F : Nat) (z : gw_Sh)  : Nat → gw_St → Nat → Int32 → Int64 → Int32 → Option gw_St
  | 0 => fun _ _ _ _ _ => none
  | n + 1 => fun u t0 x1 y2 x4 => gf_Model_twice_S9 F z  (gf_Model_twice_L9 F z  n) u t0 x1 y2 x4
def gf_Model_twice_b0 (F : Nat) (z : gw_Sh)  (u : gw_St) (t0 : Nat) (x1 : Int32) : Option gw_St :=
  gf_nm ((256 : Int32) * x1) fun a16 => gf_Model_twice_L9 F z  F u t0 x1 0 a16
def gf_Model_twice (F : Nat) (z : gw_Sh) (u : gw_St) (t0 : Nat) (x1 : Int32) : Option gw_St := gf_Model_twice_b0 F z  u t0 x1
set_option maxHeartbeats 4000000 in
set_option maxRecDepth 20000 in
theorem gx_Model_twice_S9 {p : Program} {l : Launch} {e : Env} {s : State} {m : MethodId} {args : Array Value} {below : List Frame} {meth : Method} {c : Code} {D : va_G} {cA : Nat → ClassId} {hs : Nat → Nat} {z : gw_Sh} (F : Nat) {r0 : gw_St} (C : gw_Cx p s m args c gb_Model_twice 7 R_Model D cA) (hr : meth.sig.returnType = none) (hk : meth.locks = false) {rc_9 : gw_St → Nat → Int32 → Int64 → Int32 → Option gw_St} (k_9 : ∀ (u : gw_St) (t0 : Nat) (x1 : Int32) (y2 : Int64) (x4 : Int32) (H : Heap) (locs : List Loc) (ls : Array Slot), gw_ok z t0 9 → gw_Wx D cA hs z s u H locs → lv_has ls 7 [(0, .ref (hs t0)), (1, .int x1), (2, .long y2), (4, .int x4)] → rc_9 u t0 x1 y2 x4 = some r0 → gw_Gv p l e gr_Model_twice s m args below meth c D cA hs z r0 H locs ls 9 []) (u : gw_St) (t0 : Nat) (x1 : Int32) (y2 : Int64) (x4 : Int32) (o_t0 : gw_ok z t0 9) {H : Heap} {locs : List Loc} {ls : Array Slot} (hW : gw_Wx D cA hs z s u H locs) (hl : lv_has ls 7 [(0, .ref (hs t0)), (1, .int x1), (2, .long y2), (4, .int x4)]) (h : gf_Model_twice_S9 F z  rc_9 u t0 x1 y2 x4 = some r0) : gw_Gv p l e gr_Model_twice s m args below meth c D cA hs z r0 H locs ls 9 [] := by
  obtain ⟨hx, hb, hml, hown, hts, hK⟩ := id C
  unfold gf_Model_twice_S9 at h
  refine lv_iload hx hb gd_Model_twice_9 (lv_at hl 3 rfl) ?_
  refine lv_sipush (v := 256) hx hb gd_Model_twice_11 (by decide) ?_
  refine lv_iload_n hx hb gd_Model_twice_14 rfl (lv_at hl 1 rfl) ?_
  refine lv_imul hx hb gd_Model_twice_15 ?_
  refine lv_sipush (v := 256) hx hb gd_Model_twice_16 (by decide) ?_
  refine lv_iadd hx hb gd_Model_twice_19 ?_
  refine lv_icmp_ge (tgt := 63) hx hb gd_Model_twice_20 (by decide) (fun c1 => ?_) (fun c1 => ?_)
  · have h := gf_t c1 h
    obtain rfl := Option.some.inj h
    exact gw_vret C hW hr hk gd_Model_twice_63
  · have h := gf_f c1 h
    refine lv_ldc2 (v := 2) hx hb hown (hts _ gk_381) gd_Model_twice_23 ?_
    refine lv_aload_n hx hb gd_Model_twice_26 rfl (lv_at hl 0 rfl) ?_
    obtain ⟨q2, e3, h⟩ := gf_nn_ok h
    refine gw_getr (k := 48) (ty := 11) (ref := R_Model) C hW o_t0 (by decide) rfl gi_Model rfl (by decide) rfl rfl gk_526 gd_Model_twice_27 e3 ?_
    have o_q2 := hW.ref (d := 11) o_t0 e3 rfl
    refine lv_iload hx hb gd_Model_twice_30 (lv_at hl 3 rfl) ?_
    obtain ⟨g4, h⟩ := gf_if_ok h
    refine gw_lald C hW o_q2 g4 gd_Model_twice_32 ?_
    refine lv_lmul hx hb gd_Model_twice_33 ?_
    refine lv_lload_n hx hb gd_Model_twice_34 rfl (lv_at hl 2 rfl) ?_
    refine lv_ladd hx hb gd_Model_twice_35 ?_
    refine lv_topl (fun a5 e6 => ?_)
    have h := gf_nm_ok e6 h
    refine lv_lstore (lv' := [(5, .long a5), (0, .ref (hs t0)), (1, .int x1), (2, .long y2), (4, .int x4)]) hx hb gd_Model_twice_36 hl (by decide) rfl (fun ls hl => ?_)
    refine lv_aload_n hx hb gd_Model_twice_38 rfl (lv_at hl 1 rfl) ?_
    obtain ⟨q7, e8, h⟩ := gf_nn_ok h
    refine gw_getr (k := 48) (ty := 11) (ref := R_Model) C hW o_t0 (by decide) rfl gi_Model rfl (by decide) rfl rfl gk_526 gd_Model_twice_39 e8 ?_
    have o_q7 := hW.ref (d := 11) o_t0 e8 rfl
    refine lv_iload hx hb gd_Model_twice_42 (lv_at hl 4 rfl) ?_
    refine lv_lload hx hb gd_Model_twice_44 (lv_at hl 0 rfl) ?_
    refine lv_ldc2 (v := 65535) hx hb hown (hts _ gk_534) gd_Model_twice_46 ?_
    refine lv_land hx hb gd_Model_twice_49 ?_
    obtain ⟨g9, h⟩ := gf_if_ok h
    refine gw_last C hW o_q7 g9 gd_Model_twice_50 (fun u10 H locs e11 hW => ?_)
    have h := gf_nm_ok e11 h
    refine lv_lload hx hb gd_Model_twice_51 (lv_at hl 0 rfl) ?_
    refine lv_bipush (v := 16) hx hb gd_Model_twice_53 (by decide) ?_
    refine lv_lshr hx hb gd_Model_twice_55 rfl ?_
    refine lv_topl (fun a12 e13 => ?_)
    have h := gf_nm_ok e13 h
    refine lv_lstore_n (lv' := [(2, .long a12), (5, .long a5), (0, .ref (hs t0)), (1, .int x1), (4, .int x4)]) hx hb gd_Model_twice_56 rfl hl (by decide) rfl (fun ls hl => ?_)
    obtain ⟨a14, e15⟩ : ∃ y : Int32, y = x4 + 1 := ⟨_, rfl⟩
    have h := gf_nm_ok e15 h
    refine lv_iinc (v := a14) (lv' := [(4, .int a14), (2, .long a12), (5, .long a5), (0, .ref (hs t0)), (1, .int x1)]) hx hb gd_Model_twice_57 hl (k := 4) rfl (by rw [e15]; rfl) (by decide) rfl (fun ls hl => ?_)
    refine lv_goto (tgt := 9) hx hb gd_Model_twice_60 (by decide) ?_
    exact k_9 u10 t0 x1 a12 a14 _ _ _ o_t0 hW (lv_sub hl [3, 4, 1, 0] rfl) h
set_option maxHeartbeats 4000000 in
set_option maxRecDepth 20000 in
theorem gx_Model_twice_L9 {p : Program} {l : Launch} {e : Env} {s : State} {m : MethodId} {args : Array Value} {below : List Frame} {meth : Method} {c : Code} {D : va_G} {cA : Nat → ClassId} {hs : Nat → Nat} {z : gw_Sh} (F : Nat) {r0 : gw_St} (C : gw_Cx p s m args c gb_Model_twice 7 R_Model D cA) (hr : meth.sig.returnType = none) (hk : meth.locks = false) : ∀ (n : Nat), ∀ (u : gw_St) (t0 : Nat) (x1 : Int32) (y2 : Int64) (x4 : Int32) (H : Heap) (locs : List Loc) (ls : Array Slot), gw_ok z t0 9 → gw_Wx D cA hs z s u H locs → lv_has ls 7 [(0, .ref (hs t0)), (1, .int x1), (2, .long y2), (4, .int x4)] → gf_Model_twice_L9 F z  n u t0 x1 y2 x4 = some r0 → gw_Gv p l e gr_Model_twice s m args below meth c D cA hs z r0 H locs ls 9 [] := by
  intro n
  induction n with
  | zero =>
    intro u t0 x1 y2 x4 H locs ls o_t0 hW hl h
    cases h
  | succ n ih =>
    intro u t0 x1 y2 x4 H locs ls o_t0 hW hl h
    exact gx_Model_twice_S9 F C hr hk  ih u t0 x1 y2 x4 o_t0 hW hl h

set_option maxHeartbeats 4000000 in
set_option maxRecDepth 20000 in
theorem gx_Model_twice_b0 {p : Program} {l : Launch} {e : Env} {s : State} {m : MethodId} {args : Array Value} {below : List Frame} {meth : Method} {c : Code} {D : va_G} {cA : Nat → ClassId} {hs : Nat → Nat} {z : gw_Sh} (F : Nat) {r0 : gw_St} (C : gw_Cx p s m args c gb_Model_twice 7 R_Model D cA) (hr : meth.sig.returnType = none) (hk : meth.locks = false) (u : gw_St) (t0 : Nat) (x1 : Int32) (o_t0 : gw_ok z t0 9) {H : Heap} {locs : List Loc} {ls : Array Slot} (hW : gw_Wx D cA hs z s u H locs) (hl : lv_has ls 7 [(0, .ref (hs t0)), (1, .int x1)]) (h : gf_Model_twice_b0 F z   u t0 x1 = some r0) : gw_Gv p l e gr_Model_twice s m args below meth c D cA hs z r0 H locs ls 0 [] := by
  obtain ⟨hx, hb, hml, hown, hts, hK⟩ := id C
  unfold gf_Model_twice_b0 at h
  refine lv_lconst (v := 0) hx hb gd_Model_twice_0 (by decide) ?_
  refine lv_lstore_n (lv' := [(2, .long 0), (0, .ref (hs t0)), (1, .int x1)]) hx hb gd_Model_twice_1 rfl hl (by decide) rfl (fun ls hl => ?_)
  refine lv_sipush (v := 256) hx hb gd_Model_twice_2 (by decide) ?_
  refine lv_iload_n hx hb gd_Model_twice_5 rfl (lv_at hl 2 rfl) ?_
  refine lv_imul hx hb gd_Model_twice_6 ?_
  refine lv_topi (fun a16 e17 => ?_)
  have h := gf_nm_ok e17 h
  refine lv_istore (lv' := [(4, .int a16), (2, .long 0), (0, .ref (hs t0)), (1, .int x1)]) hx hb gd_Model_twice_7 hl (by decide) rfl (fun ls hl => ?_)
  exact gx_Model_twice_L9 F C hr hk  F u t0 x1 0 a16 _ _ _ o_t0 hW (lv_sub hl [2, 3, 1, 0] rfl) h

set_option maxRecDepth 20000 in
theorem gc_Model_twice (l : Launch) {D : va_G} {cA : Nat → ClassId} {hs : Nat → Nat} {z : gw_Sh} (F : Nat) {u : gw_St} {r0 : gw_St} {t0 : Nat} {x1 : Int32} (o_t0 : gw_ok z t0 9) (h : gf_Model_twice F z u t0 x1 = some r0) (sz : Nat) : gw_Mv l gy_Model_twice gb_Model_twice 7 none gr_Model_twice [.ref (hs t0), .int x1] D cA hs z u sz r0 := by
  refine gw_enter (by decide) (Nat.le_of_ble_eq_true rfl) ?_
  intro p e s m below meth c ls hsz C hW hr hk _ hl
  subst hsz
  exact gx_Model_twice_b0 F C hr hk u t0 x1 o_t0 hW (lv_sub hl [0, 1] rfl) h
-- GearDeskModel.half(I)V
def gy_Model_half : MethodName := ⟨R_Model, "half", "(I)V"⟩
abbrev gb_Model_half : ByteArray := prog_11_method_55_code
theorem gk_550 : Cond.code gy_Model_half gb_Model_half 5 none ∈ gt_T := gt_m7 (List.mem_of_getElem? (i := 186) rfl) rfl
def gr_Model_half : Room := gw_rm 1 64
theorem gm_Model_half : gw_Mth gy_Model_half gb_Model_half 5 none 1 := ⟨gk_550, gk_377, ⟨by decide +kernel, by decide +kernel⟩, by decide +kernel⟩
theorem gd_Model_half_0 : decode gb_Model_half 0 = .ok (.iconst 0, 1) := by decide +kernel
theorem gd_Model_half_1 : decode gb_Model_half 1 = .ok (.istore_n 2, 1) := by decide +kernel
theorem gd_Model_half_2 : decode gb_Model_half 2 = .ok (.iload_n 2, 1) := by decide +kernel
theorem gd_Model_half_3 : decode gb_Model_half 3 = .ok (.sipush 256, 3) := by decide +kernel
theorem gd_Model_half_6 : decode gb_Model_half 6 = .ok (.if_icmp .ge 70, 3) := by decide +kernel
theorem gd_Model_half_9 : decode gb_Model_half 9 = .ok (.iload_n 2, 1) := by decide +kernel
theorem gd_Model_half_10 : decode gb_Model_half 10 = .ok (.iconst 1, 1) := by decide +kernel
theorem gd_Model_half_11 : decode gb_Model_half 11 = .ok (.iadd, 1) := by decide +kernel
theorem gd_Model_half_12 : decode gb_Model_half 12 = .ok (.sipush 256, 3) := by decide +kernel
theorem gd_Model_half_15 : decode gb_Model_half 15 = .ok (.if_icmp .ge 22, 3) := by decide +kernel
theorem gd_Model_half_18 : decode gb_Model_half 18 = .ok (.aload_n 0, 1) := by decide +kernel
theorem gd_Model_half_19 : decode gb_Model_half 19 = .ok (.getfield 104, 3) := by decide +kernel
theorem gd_Model_half_22 : decode gb_Model_half 22 = .ok (.sipush 256, 3) := by decide +kernel
theorem gd_Model_half_25 : decode gb_Model_half 25 = .ok (.iload_n 1, 1) := by decide +kernel
theorem gd_Model_half_26 : decode gb_Model_half 26 = .ok (.imul, 1) := by decide +kernel
theorem gd_Model_half_27 : decode gb_Model_half 27 = .ok (.iload_n 2, 1) := by decide +kernel
theorem gd_Model_half_28 : decode gb_Model_half 28 = .ok (.iadd, 1) := by decide +kernel
theorem gd_Model_half_29 : decode gb_Model_half 29 = .ok (.iconst 1, 1) := by decide +kernel
theorem gd_Model_half_30 : decode gb_Model_half 30 = .ok (.iadd, 1) := by decide +kernel
theorem gd_Model_half_31 : decode gb_Model_half 31 = .ok (.laload, 1) := by decide +kernel
theorem gd_Model_half_32 : decode gb_Model_half 32 = .ok (.lconst 1, 1) := by decide +kernel
theorem gd_Model_half_33 : decode gb_Model_half 33 = .ok (.land, 1) := by decide +kernel
theorem gd_Model_half_34 : decode gb_Model_half 34 = .ok (.goto 4, 3) := by decide +kernel
theorem gd_Model_half_37 : decode gb_Model_half 37 = .ok (.lconst 0, 1) := by decide +kernel
theorem gd_Model_half_38 : decode gb_Model_half 38 = .ok (.lstore_n 3, 1) := by decide +kernel
theorem gd_Model_half_39 : decode gb_Model_half 39 = .ok (.aload_n 0, 1) := by decide +kernel
theorem gd_Model_half_40 : decode gb_Model_half 40 = .ok (.getfield 104, 3) := by decide +kernel
theorem gd_Model_half_43 : decode gb_Model_half 43 = .ok (.sipush 256, 3) := by decide +kernel
theorem gd_Model_half_46 : decode gb_Model_half 46 = .ok (.iload_n 1, 1) := by decide +kernel
theorem gd_Model_half_47 : decode gb_Model_half 47 = .ok (.imul, 1) := by decide +kernel
theorem gd_Model_half_48 : decode gb_Model_half 48 = .ok (.iload_n 2, 1) := by decide +kernel
theorem gd_Model_half_49 : decode gb_Model_half 49 = .ok (.iadd, 1) := by decide +kernel
theorem gd_Model_half_50 : decode gb_Model_half 50 = .ok (.aload_n 0, 1) := by decide +kernel
theorem gd_Model_half_51 : decode gb_Model_half 51 = .ok (.getfield 104, 3) := by decide +kernel
theorem gd_Model_half_54 : decode gb_Model_half 54 = .ok (.sipush 256, 3) := by decide +kernel
theorem gd_Model_half_57 : decode gb_Model_half 57 = .ok (.iload_n 1, 1) := by decide +kernel
theorem gd_Model_half_58 : decode gb_Model_half 58 = .ok (.imul, 1) := by decide +kernel
theorem gd_Model_half_59 : decode gb_Model_half 59 = .ok (.iload_n 2, 1) := by decide +kernel
theorem gd_Model_half_60 : decode gb_Model_half 60 = .ok (.iadd, 1) := by decide +kernel
theorem gd_Model_half_61 : decode gb_Model_half 61 = .ok (.laload, 1) := by decide +kernel
theorem gd_Model_half_62 : decode gb_Model_half 62 = .ok (.iconst 1, 1) := by decide +kernel
theorem gd_Model_half_63 : decode gb_Model_half 63 = .ok (.lshr, 1) := by decide +kernel
theorem gd_Model_half_64 : decode gb_Model_half 64 = .ok (.lload_n 3, 1) := by decide +kernel
theorem gd_Model_half_65 : decode gb_Model_half 65 = .ok (.bipush 15, 2) := by decide +kernel
theorem gd_Model_half_67 : decode gb_Model_half 67 = .ok (.lshl, 1) := by decide +kernel
theorem gd_Model_half_68 : decode gb_Model_half 68 = .ok (.lor, 1) := by decide +kernel
theorem gd_Model_half_69 : decode gb_Model_half 69 = .ok (.lastore, 1) := by decide +kernel
theorem gd_Model_half_70 : decode gb_Model_half 70 = .ok (.iinc 2 1, 3) := by decide +kernel
theorem gd_Model_half_73 : decode gb_Model_half 73 = .ok (.goto (-71), 3) := by decide +kernel
theorem gd_Model_half_76 : decode gb_Model_half 76 = .ok (.return_, 1) := by decide +kernel
def gf_Model_half_b38 (F : Nat) (z : gw_Sh) (rc_2 : gw_St → Nat → Int32 → Int32 → Option gw_St) (u : gw_St) (t0 : Nat) (x1 : Int32) (x2 : Int32) (sy0 : Int64) : Option gw_St :=
  gf_nn (u.2.2 t0 48) fun q1 => gf_nn (u.2.2 t0 48) fun q3 => if ((((256 : Int32) * x1) + x2) < 0 ∨ z.2.2 q3 ≤ ((((256 : Int32) * x1) + x2)).toNatClampNeg) then none else if ((((256 : Int32) * x1) + x2) < 0 ∨ z.2.2 q1 ≤ ((((256 : Int32) * x1) + x2)).toNatClampNeg) then none else gf_nm (gw_wl u q1 ((((256 : Int32) * x1) + x2)).toNatClampNeg (((u.2.1 q3 ((((256 : Int32) * x1) + x2)).toNatClampNeg) >>> (((1 : Int32)).toInt64 &&& 63)) ||| (sy0 <<< (((15 : Int32)).toInt64 &&& 63)))) fun u7 => gf_nm (x2 + 1) fun a9 => rc_2 u7 t0 x1 a9
def gf_Model_half_S2 (F : Nat) (z : gw_Sh)  (rc_2 : gw_St → Nat → Int32 → Int32 → Option gw_St) (u : gw_St) (t0 : Nat) (x1 : Int32) (x2 : Int32) : Option gw_St :=
  if (256 : Int32) ≤ x2 then (some u) else (if (256 : Int32) ≤ (x2 + (1 : Int32)) then (gf_Model_half_b38 F z rc_2 u t0 x1 x2 0) else (gf_nn (u.2.2 t0 48) fun q13 => if (((((256 : Int32) * x1) + x2) + (1 : Int32)) < 0 ∨ z.2.2 q13 ≤ (((((256 : Int32) * x1) + x2) + (1 : Int32))).toNatClampNeg) then none else gf_Model_half_b38 F z rc_2 u t0 x1 x2 ((u.2.1 q13 (((((256 : Int32) * x1) + x2) + (1 : Int32))).toNatClampNeg) &&& (1 : Int64))))
def gf_Model_half_L2 (F : Nat) (z : gw_Sh)  : Nat → gw_St → Nat → Int32 → Int32 → Option gw_St
  | 0 => fun _ _ _ _ => none
  | n + 1 => fun u t0 x1 x2 => gf_Model_half_S2 F z  (gf_Model_half_L2 F z  n) u t0 x1 x2
def gf_Model_half_b0 (F : Nat) (z : gw_Sh)  (u : gw_St) (t0 : Nat) (x1 : Int32) : Option gw_St :=
  gf_Model_half_L2 F z  F u t0 x1 0
def gf_Model_half (F : Nat) (z : gw_Sh) (u : gw_St) (t0 : Nat) (x1 : Int32) : Option gw_St := gf_Model_half_b0 F z  u t0 x1
set_option maxHeartbeats 4000000 in
set_option maxRecDepth 20000 in
theorem gx_Model_half_b38 {p : Program} {l : Launch} {e : Env} {s : State} {m : MethodId} {args : Array Value} {below : List Frame} {meth : Method} {c : Code} {D : va_G} {cA : Nat → ClassId} {hs : Nat → Nat} {z : gw_Sh} (F : Nat) {r0 : gw_St} (C : gw_Cx p s m args c gb_Model_half 5 R_Model D cA) (hr : meth.sig.returnType = none) (hk : meth.locks = false) {rc_2 : gw_St → Nat → Int32 → Int32 → Option gw_St} (k_2 : ∀ (u : gw_St) (t0 : Nat) (x1 : Int32) (x2 : Int32) (H : Heap) (locs : List Loc) (ls : Array Slot), gw_ok z t0 9 → gw_Wx D cA hs z s u H locs → lv_has ls 5 [(0, .ref (hs t0)), (1, .int x1), (2, .int x2)] → rc_2 u t0 x1 x2 = some r0 → gw_Gv p l e gr_Model_half s m args below meth c D cA hs z r0 H locs ls 2 []) (u : gw_St) (t0 : Nat) (x1 : Int32) (x2 : Int32) (sy0 : Int64) (o_t0 : gw_ok z t0 9) {H : Heap} {locs : List Loc} {ls : Array Slot} (hW : gw_Wx D cA hs z s u H locs) (hl : lv_has ls 5 [(0, .ref (hs t0)), (1, .int x1), (2, .int x2)]) (h : gf_Model_half_b38 F z rc_2  u t0 x1 x2 sy0 = some r0) : gw_Gv p l e gr_Model_half s m args below meth c D cA hs z r0 H locs ls 38 [.long sy0] := by
  obtain ⟨hx, hb, hml, hown, hts, hK⟩ := id C
  unfold gf_Model_half_b38 at h
  refine lv_lstore_n (lv' := [(3, .long sy0), (0, .ref (hs t0)), (1, .int x1), (2, .int x2)]) hx hb gd_Model_half_38 rfl hl (by decide) rfl (fun ls hl => ?_)
  refine lv_aload_n hx hb gd_Model_half_39 rfl (lv_at hl 1 rfl) ?_
  obtain ⟨q1, e2, h⟩ := gf_nn_ok h
  refine gw_getr (k := 48) (ty := 11) (ref := R_Model) C hW o_t0 (by decide) rfl gi_Model rfl (by decide) rfl rfl gk_526 gd_Model_half_40 e2 ?_
  have o_q1 := hW.ref (d := 11) o_t0 e2 rfl
  refine lv_sipush (v := 256) hx hb gd_Model_half_43 (by decide) ?_
  refine lv_iload_n hx hb gd_Model_half_46 rfl (lv_at hl 2 rfl) ?_
  refine lv_imul hx hb gd_Model_half_47 ?_
  refine lv_iload_n hx hb gd_Model_half_48 rfl (lv_at hl 3 rfl) ?_
  refine lv_iadd hx hb gd_Model_half_49 ?_
  refine lv_aload_n hx hb gd_Model_half_50 rfl (lv_at hl 1 rfl) ?_
  obtain ⟨q3, e4, h⟩ := gf_nn_ok h
  refine gw_getr (k := 48) (ty := 11) (ref := R_Model) C hW o_t0 (by decide) rfl gi_Model rfl (by decide) rfl rfl gk_526 gd_Model_half_51 e4 ?_
  have o_q3 := hW.ref (d := 11) o_t0 e4 rfl
  refine lv_sipush (v := 256) hx hb gd_Model_half_54 (by decide) ?_
  refine lv_iload_n hx hb gd_Model_half_57 rfl (lv_at hl 2 rfl) ?_
  refine lv_imul hx hb gd_Model_half_58 ?_
  refine lv_iload_n hx hb gd_Model_half_59 rfl (lv_at hl 3 rfl) ?_
  refine lv_iadd hx hb gd_Model_half_60 ?_
  obtain ⟨g5, h⟩ := gf_if_ok h
  refine gw_lald C hW o_q3 g5 gd_Model_half_61 ?_
  refine lv_iconst (v := 1) hx hb gd_Model_half_62 (by decide) ?_
  refine lv_lshr hx hb gd_Model_half_63 rfl ?_
  refine lv_lload_n hx hb gd_Model_half_64 rfl (lv_at hl 0 rfl) ?_
  refine lv_bipush (v := 15) hx hb gd_Model_half_65 (by decide) ?_
  refine lv_lshl hx hb gd_Model_half_67 rfl ?_
  refine lv_lor hx hb gd_Model_half_68 ?_
  obtain ⟨g6, h⟩ := gf_if_ok h
  refine gw_last C hW o_q1 g6 gd_Model_half_69 (fun u7 H locs e8 hW => ?_)
  have h := gf_nm_ok e8 h
  obtain ⟨a9, e10⟩ : ∃ y : Int32, y = x2 + 1 := ⟨_, rfl⟩
  have h := gf_nm_ok e10 h
  refine lv_iinc (v := a9) (lv' := [(2, .int a9), (3, .long sy0), (0, .ref (hs t0)), (1, .int x1)]) hx hb gd_Model_half_70 hl (k := 3) rfl (by rw [e10]; rfl) (by decide) rfl (fun ls hl => ?_)
  refine lv_goto (tgt := 2) hx hb gd_Model_half_73 (by decide) ?_
  exact k_2 u7 t0 x1 a9 _ _ _ o_t0 hW (lv_sub hl [2, 3, 0] rfl) h

set_option maxHeartbeats 4000000 in
set_option maxRecDepth 20000 in
theorem gx_Model_half_S2 {p : Program} {l : Launch} {e : Env} {s : State} {m : MethodId} {args : Array Value} {below : List Frame} {meth : Method} {c : Code} {D : va_G} {cA : Nat → ClassId} {hs : Nat → Nat} {z : gw_Sh} (F : Nat) {r0 : gw_St} (C : gw_Cx p s m args c gb_Model_half 5 R_Model D cA) (hr : meth.sig.returnType = none) (hk : meth.locks = false) {rc_2 : gw_St → Nat → Int32 → Int32 → Option gw_St} (k_2 : ∀ (u : gw_St) (t0 : Nat) (x1 : Int32) (x2 : Int32) (H : Heap) (locs : List Loc) (ls : Array Slot), gw_ok z t0 9 → gw_Wx D cA hs z s u H locs → lv_has ls 5 [(0, .ref (hs t0)), (1, .int x1), (2, .int x2)] → rc_2 u t0 x1 x2 = some r0 → gw_Gv p l e gr_Model_half s m args below meth c D cA hs z r0 H locs ls 2 []) (u : gw_St) (t0 : Nat) (x1 : Int32) (x2 : Int32) (o_t0 : gw_ok z t0 9) {H : Heap} {locs : List Loc} {ls : Array Slot} (hW : gw_Wx D cA hs z s u H locs) (hl : lv_has ls 5 [(0, .ref (hs t0)), (1, .int x1), (2, .int x2)]) (h : gf_Model_half_S2 F z  rc_2 u t0 x1 x2 = some r0) : gw_Gv p l e gr_Model_half s m args below meth c D cA hs z r0 H locs ls 2 [] := by
  obtain ⟨hx, hb, hml, hown, hts, hK⟩ := id C
  unfold gf_Model_half_S2 at h
  refine lv_iload_n hx hb gd_Model_half_2 rfl (lv_at hl 2 rfl) ?_
  refine lv_sipush (v := 256) hx hb gd_Model_half_3 (by decide) ?_
  refine lv_icmp_ge (tgt := 76) hx hb gd_Model_half_6 (by decide) (fun c11 => ?_) (fun c11 => ?_)
  · have h := gf_t c11 h
    obtain rfl := Option.some.inj h
    exact gw_vret C hW hr hk gd_Model_half_76
  · have h := gf_f c11 h
    refine lv_iload_n hx hb gd_Model_half_9 rfl (lv_at hl 2 rfl) ?_
    refine lv_iconst (v := 1) hx hb gd_Model_half_10 (by decide) ?_
    refine lv_iadd hx hb gd_Model_half_11 ?_
    refine lv_sipush (v := 256) hx hb gd_Model_half_12 (by decide) ?_
    refine lv_icmp_ge (tgt := 37) hx hb gd_Model_half_15 (by decide) (fun c12 => ?_) (fun c12 => ?_)
    · have h := gf_t c12 h
      refine lv_lconst (v := 0) hx hb gd_Model_half_37 (by decide) ?_
      exact gx_Model_half_b38 F C hr hk k_2 u t0 x1 x2 0 o_t0 hW (lv_sub hl [0, 1, 2] rfl) h
    · have h := gf_f c12 h
      refine lv_aload_n hx hb gd_Model_half_18 rfl (lv_at hl 0 rfl) ?_
      obtain ⟨q13, e14, h⟩ := gf_nn_ok h
      refine gw_getr (k := 48) (ty := 11) (ref := R_Model) C hW o_t0 (by decide) rfl gi_Model rfl (by decide) rfl rfl gk_526 gd_Model_half_19 e14 ?_
      have o_q13 := hW.ref (d := 11) o_t0 e14 rfl
      refine lv_sipush (v := 256) hx hb gd_Model_half_22 (by decide) ?_
      refine lv_iload_n hx hb gd_Model_half_25 rfl (lv_at hl 1 rfl) ?_
      refine lv_imul hx hb gd_Model_half_26 ?_
      refine lv_iload_n hx hb gd_Model_half_27 rfl (lv_at hl 2 rfl) ?_
      refine lv_iadd hx hb gd_Model_half_28 ?_
      refine lv_iconst (v := 1) hx hb gd_Model_half_29 (by decide) ?_
      refine lv_iadd hx hb gd_Model_half_30 ?_
      obtain ⟨g15, h⟩ := gf_if_ok h
      refine gw_lald C hW o_q13 g15 gd_Model_half_31 ?_
      refine lv_lconst (v := 1) hx hb gd_Model_half_32 (by decide) ?_
      refine lv_land hx hb gd_Model_half_33 ?_
      refine lv_goto (tgt := 38) hx hb gd_Model_half_34 (by decide) ?_
      exact gx_Model_half_b38 F C hr hk k_2 u t0 x1 x2 ((u.2.1 q13 (((((256 : Int32) * x1) + x2) + (1 : Int32))).toNatClampNeg) &&& (1 : Int64)) o_t0 hW (lv_sub hl [0, 1, 2] rfl) h
set_option maxHeartbeats 4000000 in
set_option maxRecDepth 20000 in
theorem gx_Model_half_L2 {p : Program} {l : Launch} {e : Env} {s : State} {m : MethodId} {args : Array Value} {below : List Frame} {meth : Method} {c : Code} {D : va_G} {cA : Nat → ClassId} {hs : Nat → Nat} {z : gw_Sh} (F : Nat) {r0 : gw_St} (C : gw_Cx p s m args c gb_Model_half 5 R_Model D cA) (hr : meth.sig.returnType = none) (hk : meth.locks = false) : ∀ (n : Nat), ∀ (u : gw_St) (t0 : Nat) (x1 : Int32) (x2 : Int32) (H : Heap) (locs : List Loc) (ls : Array Slot), gw_ok z t0 9 → gw_Wx D cA hs z s u H locs → lv_has ls 5 [(0, .ref (hs t0)), (1, .int x1), (2, .int x2)] → gf_Model_half_L2 F z  n u t0 x1 x2 = some r0 → gw_Gv p l e gr_Model_half s m args below meth c D cA hs z r0 H locs ls 2 [] := by
  intro n
  induction n with
  | zero =>
    intro u t0 x1 x2 H locs ls o_t0 hW hl h
    cases h
  | succ n ih =>
    intro u t0 x1 x2 H locs ls o_t0 hW hl h
    exact gx_Model_half_S2 F C hr hk  ih u t0 x1 x2 o_t0 hW hl h

set_option maxHeartbeats 4000000 in
set_option maxRecDepth 20000 in
theorem gx_Model_half_b0 {p : Program} {l : Launch} {e : Env} {s : State} {m : MethodId} {args : Array Value} {below : List Frame} {meth : Method} {c : Code} {D : va_G} {cA : Nat → ClassId} {hs : Nat → Nat} {z : gw_Sh} (F : Nat) {r0 : gw_St} (C : gw_Cx p s m args c gb_Model_half 5 R_Model D cA) (hr : meth.sig.returnType = none) (hk : meth.locks = false) (u : gw_St) (t0 : Nat) (x1 : Int32) (o_t0 : gw_ok z t0 9) {H : Heap} {locs : List Loc} {ls : Array Slot} (hW : gw_Wx D cA hs z s u H locs) (hl : lv_has ls 5 [(0, .ref (hs t0)), (1, .int x1)]) (h : gf_Model_half_b0 F z   u t0 x1 = some r0) : gw_Gv p l e gr_Model_half s m args below meth c D cA hs z r0 H locs ls 0 [] := by
  obtain ⟨hx, hb, hml, hown, hts, hK⟩ := id C
  unfold gf_Model_half_b0 at h
  refine lv_iconst (v := 0) hx hb gd_Model_half_0 (by decide) ?_
  refine lv_istore_n (lv' := [(2, .int 0), (0, .ref (hs t0)), (1, .int x1)]) hx hb gd_Model_half_1 rfl hl (by decide) rfl (fun ls hl => ?_)
  exact gx_Model_half_L2 F C hr hk  F u t0 x1 0 _ _ _ o_t0 hW (lv_sub hl [1, 2, 0] rfl) h

set_option maxRecDepth 20000 in
theorem gc_Model_half (l : Launch) {D : va_G} {cA : Nat → ClassId} {hs : Nat → Nat} {z : gw_Sh} (F : Nat) {u : gw_St} {r0 : gw_St} {t0 : Nat} {x1 : Int32} (o_t0 : gw_ok z t0 9) (h : gf_Model_half F z u t0 x1 = some r0) (sz : Nat) : gw_Mv l gy_Model_half gb_Model_half 5 none gr_Model_half [.ref (hs t0), .int x1] D cA hs z u sz r0 := by
  refine gw_enter (by decide) (Nat.le_of_ble_eq_true rfl) ?_
  intro p e s m below meth c ls hsz C hW hr hk _ hl
  subst hsz
  exact gx_Model_half_b0 F C hr hk u t0 x1 o_t0 hW (lv_sub hl [0, 1] rfl) h
-- GearDeskModel.divide(IIII)V
theorem gk_551 : Cond.methodLink R_Model 290 gy_Model_half ∈ gt_T := gt_m7 (List.mem_of_getElem? (i := 183) rfl) rfl
theorem gk_552 : Cond.instanceMethod gy_Model_half ∈ gt_T := gt_m7 (List.mem_of_getElem? (i := 185) rfl) rfl
theorem gk_553 : Cond.selects R_Model gy_Model_half gy_Model_half ∈ gt_T := gt_p5 (List.mem_of_getElem? (i := 4) rfl) rfl
theorem gk_554 : Cond.methodLink R_Model 283 gy_Model_compareWide ∈ gt_T := gt_m7 (List.mem_of_getElem? (i := 179) rfl) rfl
theorem gk_555 : Cond.instanceMethod gy_Model_compareWide ∈ gt_T := gt_m7 (List.mem_of_getElem? (i := 181) rfl) rfl
theorem gk_556 : Cond.selects R_Model gy_Model_compareWide gy_Model_compareWide ∈ gt_T := gt_p5 (List.mem_of_getElem? (i := 3) rfl) rfl
theorem gk_557 : Cond.methodLink R_Model 286 gy_Model_addWide ∈ gt_T := gt_m7 (List.mem_of_getElem? (i := 155) rfl) rfl
theorem gk_558 : Cond.instanceMethod gy_Model_addWide ∈ gt_T := gt_m7 (List.mem_of_getElem? (i := 157) rfl) rfl
theorem gk_559 : Cond.selects R_Model gy_Model_addWide gy_Model_addWide ∈ gt_T := gt_p4 (List.mem_of_getElem? (i := 13) rfl) rfl
theorem gk_560 : Cond.methodLink R_Model 280 gy_Model_twice ∈ gt_T := gt_m7 (List.mem_of_getElem? (i := 175) rfl) rfl
theorem gk_561 : Cond.instanceMethod gy_Model_twice ∈ gt_T := gt_m7 (List.mem_of_getElem? (i := 177) rfl) rfl
theorem gk_562 : Cond.selects R_Model gy_Model_twice gy_Model_twice ∈ gt_T := gt_p5 (List.mem_of_getElem? (i := 2) rfl) rfl
theorem gk_563 : Cond.methodLink R_Model 274 gy_Model_bits ∈ gt_T := gt_m7 (List.mem_of_getElem? (i := 163) rfl) rfl
theorem gk_564 : Cond.instanceMethod gy_Model_bits ∈ gt_T := gt_m7 (List.mem_of_getElem? (i := 165) rfl) rfl
theorem gk_565 : Cond.selects R_Model gy_Model_bits gy_Model_bits ∈ gt_T := gt_p4 (List.mem_of_getElem? (i := 15) rfl) rfl
theorem gk_566 : Cond.methodLink R_Model 277 gy_Model_copyWide ∈ gt_T := gt_m7 (List.mem_of_getElem? (i := 147) rfl) rfl
theorem gk_567 : Cond.instanceMethod gy_Model_copyWide ∈ gt_T := gt_m7 (List.mem_of_getElem? (i := 149) rfl) rfl
theorem gk_568 : Cond.selects R_Model gy_Model_copyWide gy_Model_copyWide ∈ gt_T := gt_p4 (List.mem_of_getElem? (i := 11) rfl) rfl
def gy_Model_divide : MethodName := ⟨R_Model, "divide", "(IIII)V"⟩
abbrev gb_Model_divide : ByteArray := prog_11_method_56_code
theorem gk_569 : Cond.code gy_Model_divide gb_Model_divide 7 none ∈ gt_T := gt_m7 (List.mem_of_getElem? (i := 174) rfl) rfl
def gr_Model_divide : Room := gw_rm 3 114
theorem gm_Model_divide : gw_Mth gy_Model_divide gb_Model_divide 7 none 4 := ⟨gk_569, gk_377, ⟨by decide +kernel, by decide +kernel⟩, by decide +kernel⟩
theorem gd_Model_divide_0 : decode gb_Model_divide 0 = .ok (.aload_n 0, 1) := by decide +kernel
theorem gd_Model_divide_1 : decode gb_Model_divide 1 = .ok (.iload_n 1, 1) := by decide +kernel
theorem gd_Model_divide_2 : decode gb_Model_divide 2 = .ok (.invokevirtual 274, 3) := by decide +kernel
theorem gd_Model_divide_5 : decode gb_Model_divide 5 = .ok (.aload_n 0, 1) := by decide +kernel
theorem gd_Model_divide_6 : decode gb_Model_divide 6 = .ok (.iload_n 2, 1) := by decide +kernel
theorem gd_Model_divide_7 : decode gb_Model_divide 7 = .ok (.invokevirtual 274, 3) := by decide +kernel
theorem gd_Model_divide_10 : decode gb_Model_divide 10 = .ok (.isub, 1) := by decide +kernel
theorem gd_Model_divide_11 : decode gb_Model_divide 11 = .ok (.istore 5, 2) := by decide +kernel
theorem gd_Model_divide_13 : decode gb_Model_divide 13 = .ok (.iload 5, 2) := by decide +kernel
theorem gd_Model_divide_15 : decode gb_Model_divide 15 = .ok (.ifCond .ge 4, 3) := by decide +kernel
theorem gd_Model_divide_18 : decode gb_Model_divide 18 = .ok (.return_, 1) := by decide +kernel
theorem gd_Model_divide_19 : decode gb_Model_divide 19 = .ok (.aload_n 0, 1) := by decide +kernel
theorem gd_Model_divide_20 : decode gb_Model_divide 20 = .ok (.bipush 18, 2) := by decide +kernel
theorem gd_Model_divide_22 : decode gb_Model_divide 22 = .ok (.iload_n 2, 1) := by decide +kernel
theorem gd_Model_divide_23 : decode gb_Model_divide 23 = .ok (.invokevirtual 277, 3) := by decide +kernel
theorem gd_Model_divide_26 : decode gb_Model_divide 26 = .ok (.aload_n 0, 1) := by decide +kernel
theorem gd_Model_divide_27 : decode gb_Model_divide 27 = .ok (.bipush 19, 2) := by decide +kernel
theorem gd_Model_divide_29 : decode gb_Model_divide 29 = .ok (.iload 4, 2) := by decide +kernel
theorem gd_Model_divide_31 : decode gb_Model_divide 31 = .ok (.invokevirtual 277, 3) := by decide +kernel
theorem gd_Model_divide_34 : decode gb_Model_divide 34 = .ok (.iconst 0, 1) := by decide +kernel
theorem gd_Model_divide_35 : decode gb_Model_divide 35 = .ok (.istore 6, 2) := by decide +kernel
theorem gd_Model_divide_37 : decode gb_Model_divide 37 = .ok (.iload 6, 2) := by decide +kernel
theorem gd_Model_divide_39 : decode gb_Model_divide 39 = .ok (.iload 5, 2) := by decide +kernel
theorem gd_Model_divide_41 : decode gb_Model_divide 41 = .ok (.if_icmp .ge 21, 3) := by decide +kernel
theorem gd_Model_divide_44 : decode gb_Model_divide 44 = .ok (.aload_n 0, 1) := by decide +kernel
theorem gd_Model_divide_45 : decode gb_Model_divide 45 = .ok (.bipush 18, 2) := by decide +kernel
theorem gd_Model_divide_47 : decode gb_Model_divide 47 = .ok (.invokevirtual 280, 3) := by decide +kernel
theorem gd_Model_divide_50 : decode gb_Model_divide 50 = .ok (.aload_n 0, 1) := by decide +kernel
theorem gd_Model_divide_51 : decode gb_Model_divide 51 = .ok (.bipush 19, 2) := by decide +kernel
theorem gd_Model_divide_53 : decode gb_Model_divide 53 = .ok (.invokevirtual 280, 3) := by decide +kernel
theorem gd_Model_divide_56 : decode gb_Model_divide 56 = .ok (.iinc 6 1, 3) := by decide +kernel
theorem gd_Model_divide_59 : decode gb_Model_divide 59 = .ok (.goto (-22), 3) := by decide +kernel
theorem gd_Model_divide_62 : decode gb_Model_divide 62 = .ok (.iload 5, 2) := by decide +kernel
theorem gd_Model_divide_64 : decode gb_Model_divide 64 = .ok (.istore 6, 2) := by decide +kernel
theorem gd_Model_divide_66 : decode gb_Model_divide 66 = .ok (.iload 6, 2) := by decide +kernel
theorem gd_Model_divide_68 : decode gb_Model_divide 68 = .ok (.ifCond .lt 47, 3) := by decide +kernel
theorem gd_Model_divide_71 : decode gb_Model_divide 71 = .ok (.aload_n 0, 1) := by decide +kernel
theorem gd_Model_divide_72 : decode gb_Model_divide 72 = .ok (.iload_n 1, 1) := by decide +kernel
theorem gd_Model_divide_73 : decode gb_Model_divide 73 = .ok (.bipush 18, 2) := by decide +kernel
theorem gd_Model_divide_75 : decode gb_Model_divide 75 = .ok (.invokevirtual 283, 3) := by decide +kernel
theorem gd_Model_divide_78 : decode gb_Model_divide 78 = .ok (.ifCond .lt 19, 3) := by decide +kernel
theorem gd_Model_divide_81 : decode gb_Model_divide 81 = .ok (.aload_n 0, 1) := by decide +kernel
theorem gd_Model_divide_82 : decode gb_Model_divide 82 = .ok (.iload_n 1, 1) := by decide +kernel
theorem gd_Model_divide_83 : decode gb_Model_divide 83 = .ok (.bipush 18, 2) := by decide +kernel
theorem gd_Model_divide_85 : decode gb_Model_divide 85 = .ok (.iconst 1, 1) := by decide +kernel
theorem gd_Model_divide_86 : decode gb_Model_divide 86 = .ok (.invokevirtual 286, 3) := by decide +kernel
theorem gd_Model_divide_89 : decode gb_Model_divide 89 = .ok (.aload_n 0, 1) := by decide +kernel
theorem gd_Model_divide_90 : decode gb_Model_divide 90 = .ok (.iload_n 3, 1) := by decide +kernel
theorem gd_Model_divide_91 : decode gb_Model_divide 91 = .ok (.bipush 19, 2) := by decide +kernel
theorem gd_Model_divide_93 : decode gb_Model_divide 93 = .ok (.iconst 0, 1) := by decide +kernel
theorem gd_Model_divide_94 : decode gb_Model_divide 94 = .ok (.invokevirtual 286, 3) := by decide +kernel
theorem gd_Model_divide_97 : decode gb_Model_divide 97 = .ok (.aload_n 0, 1) := by decide +kernel
theorem gd_Model_divide_98 : decode gb_Model_divide 98 = .ok (.bipush 18, 2) := by decide +kernel
theorem gd_Model_divide_100 : decode gb_Model_divide 100 = .ok (.invokevirtual 290, 3) := by decide +kernel
theorem gd_Model_divide_103 : decode gb_Model_divide 103 = .ok (.aload_n 0, 1) := by decide +kernel
theorem gd_Model_divide_104 : decode gb_Model_divide 104 = .ok (.bipush 19, 2) := by decide +kernel
theorem gd_Model_divide_106 : decode gb_Model_divide 106 = .ok (.invokevirtual 290, 3) := by decide +kernel
theorem gd_Model_divide_109 : decode gb_Model_divide 109 = .ok (.iinc 6 (-1), 3) := by decide +kernel
theorem gd_Model_divide_112 : decode gb_Model_divide 112 = .ok (.goto (-46), 3) := by decide +kernel
theorem gd_Model_divide_115 : decode gb_Model_divide 115 = .ok (.return_, 1) := by decide +kernel
def gf_Model_divide_b97 (F : Nat) (z : gw_Sh) (rc_66 : gw_St → Nat → Int32 → Int32 → Int32 → Option gw_St) (u : gw_St) (t0 : Nat) (x1 : Int32) (x3 : Int32) (x6 : Int32) : Option gw_St :=
  (gf_Model_half F z u t0 (18 : Int32)).bind fun u1 => (gf_Model_half F z u1 t0 (19 : Int32)).bind fun u3 => gf_nm (x6 + (-1)) fun a5 => rc_66 u3 t0 x1 x3 a5
def gf_Model_divide_S66 (F : Nat) (z : gw_Sh)  (rc_66 : gw_St → Nat → Int32 → Int32 → Int32 → Option gw_St) (u : gw_St) (t0 : Nat) (x1 : Int32) (x3 : Int32) (x6 : Int32) : Option gw_St :=
  if x6 < 0 then (some u) else (gf_cl (gf_Model_compareWide F z u t0 x1 (18 : Int32)) fun a10 u8 => if a10 < 0 then (gf_Model_divide_b97 F z rc_66 u8 t0 x1 x3 x6) else ((gf_Model_addWide F z u8 t0 x1 (18 : Int32) (1 : Int32)).bind fun u12 => (gf_Model_addWide F z u12 t0 x3 (19 : Int32) (0 : Int32)).bind fun u14 => gf_Model_divide_b97 F z rc_66 u14 t0 x1 x3 x6))
def gf_Model_divide_L66 (F : Nat) (z : gw_Sh)  : Nat → gw_St → Nat → Int32 → Int32 → Int32 → Option gw_St
  | 0 => fun _ _ _ _ _ => none
  | n + 1 => fun u t0 x1 x3 x6 => gf_Model_divide_S66 F z  (gf_Model_divide_L66 F z  n) u t0 x1 x3 x6
def gf_Model_divide_S37 (F : Nat) (z : gw_Sh)  (rc_37 : gw_St → Nat → Int32 → Int32 → Int32 → Int32 → Option gw_St) (u : gw_St) (t0 : Nat) (x1 : Int32) (x3 : Int32) (x5 : Int32) (x6 : Int32) : Option gw_St :=
  if x5 ≤ x6 then (gf_Model_divide_L66 F z  F u t0 x1 x3 x5) else ((gf_Model_twice F z u t0 (18 : Int32)).bind fun u17 => (gf_Model_twice F z u17 t0 (19 : Int32)).bind fun u19 => gf_nm (x6 + 1) fun a21 => rc_37 u19 t0 x1 x3 x5 a21)
def gf_Model_divide_L37 (F : Nat) (z : gw_Sh)  : Nat → gw_St → Nat → Int32 → Int32 → Int32 → Int32 → Option gw_St
  | 0 => fun _ _ _ _ _ _ => none
  | n + 1 => fun u t0 x1 x3 x5 x6 => gf_Model_divide_S37 F z  (gf_Model_divide_L37 F z  n) u t0 x1 x3 x5 x6
def gf_Model_divide_b0 (F : Nat) (z : gw_Sh)  (u : gw_St) (t0 : Nat) (x1 : Int32) (x2 : Int32) (x3 : Int32) (x4 : Int32) : Option gw_St :=
  gf_cl (gf_Model_bits F z u t0 x1) fun a25 u23 => gf_cl (gf_Model_bits F z u23 t0 x2) fun a28 u26 => gf_nm (a25 - a28) fun a29 => if 0 ≤ a29 then ((gf_Model_copyWide F z u26 t0 (18 : Int32) x2).bind fun u32 => (gf_Model_copyWide F z u32 t0 (19 : Int32) x4).bind fun u34 => gf_Model_divide_L37 F z  F u34 t0 x1 x3 a29 0) else (some u26)
def gf_Model_divide (F : Nat) (z : gw_Sh) (u : gw_St) (t0 : Nat) (x1 : Int32) (x2 : Int32) (x3 : Int32) (x4 : Int32) : Option gw_St := gf_Model_divide_b0 F z  u t0 x1 x2 x3 x4
set_option maxHeartbeats 4000000 in
set_option maxRecDepth 20000 in
theorem gx_Model_divide_b97 {p : Program} {l : Launch} {e : Env} {s : State} {m : MethodId} {args : Array Value} {below : List Frame} {meth : Method} {c : Code} {D : va_G} {cA : Nat → ClassId} {hs : Nat → Nat} {z : gw_Sh} (F : Nat) {r0 : gw_St} (C : gw_Cx p s m args c gb_Model_divide 7 R_Model D cA) (hr : meth.sig.returnType = none) (hk : meth.locks = false) {rc_66 : gw_St → Nat → Int32 → Int32 → Int32 → Option gw_St} (k_66 : ∀ (u : gw_St) (t0 : Nat) (x1 : Int32) (x3 : Int32) (x6 : Int32) (H : Heap) (locs : List Loc) (ls : Array Slot), gw_ok z t0 9 → gw_Wx D cA hs z s u H locs → lv_has ls 7 [(0, .ref (hs t0)), (1, .int x1), (3, .int x3), (6, .int x6)] → rc_66 u t0 x1 x3 x6 = some r0 → gw_Gv p l e gr_Model_divide s m args below meth c D cA hs z r0 H locs ls 66 []) (u : gw_St) (t0 : Nat) (x1 : Int32) (x3 : Int32) (x6 : Int32) (o_t0 : gw_ok z t0 9) {H : Heap} {locs : List Loc} {ls : Array Slot} (hW : gw_Wx D cA hs z s u H locs) (hl : lv_has ls 7 [(0, .ref (hs t0)), (1, .int x1), (3, .int x3), (6, .int x6)]) (h : gf_Model_divide_b97 F z rc_66  u t0 x1 x3 x6 = some r0) : gw_Gv p l e gr_Model_divide s m args below meth c D cA hs z r0 H locs ls 97 [] := by
  obtain ⟨hx, hb, hml, hown, hts, hK⟩ := id C
  unfold gf_Model_divide_b97 at h
  refine lv_aload_n hx hb gd_Model_divide_97 rfl (lv_at hl 0 rfl) ?_
  refine lv_bipush (v := 18) hx hb gd_Model_divide_98 (by decide) ?_
  obtain ⟨u1, d2, h⟩ := gf_bd_ok h
  refine gw_callVv (K := R_Model) (As := [.int (18 : Int32)]) (rest := []) C hW (fun _ h => Or.inr h) hl.1 gm_Model_half (gc_Model_half l F o_t0 d2 _) gk_551 gk_552 gk_553 o_t0 (by decide) rfl rfl rfl ⟨Nat.le_of_ble_eq_true rfl, Nat.le_of_ble_eq_true rfl⟩ ⟨Nat.zero_le _, Nat.zero_le _⟩ rfl rfl (Nat.le_of_ble_eq_true rfl) gd_Model_divide_100 (fun H locs hW => ?_)
  refine lv_aload_n hx hb gd_Model_divide_103 rfl (lv_at hl 0 rfl) ?_
  refine lv_bipush (v := 19) hx hb gd_Model_divide_104 (by decide) ?_
  obtain ⟨u3, d4, h⟩ := gf_bd_ok h
  refine gw_callVv (K := R_Model) (As := [.int (19 : Int32)]) (rest := []) C hW (fun _ h => Or.inr h) hl.1 gm_Model_half (gc_Model_half l F o_t0 d4 _) gk_551 gk_552 gk_553 o_t0 (by decide) rfl rfl rfl ⟨Nat.le_of_ble_eq_true rfl, Nat.le_of_ble_eq_true rfl⟩ ⟨Nat.zero_le _, Nat.zero_le _⟩ rfl rfl (Nat.le_of_ble_eq_true rfl) gd_Model_divide_106 (fun H locs hW => ?_)
  obtain ⟨a5, e6⟩ : ∃ y : Int32, y = x6 + (-1) := ⟨_, rfl⟩
  have h := gf_nm_ok e6 h
  refine lv_iinc (v := a5) (lv' := [(6, .int a5), (0, .ref (hs t0)), (1, .int x1), (3, .int x3)]) hx hb gd_Model_divide_109 hl (k := 3) rfl (by rw [e6]; rfl) (by decide) rfl (fun ls hl => ?_)
  refine lv_goto (tgt := 66) hx hb gd_Model_divide_112 (by decide) ?_
  exact k_66 u3 t0 x1 x3 a5 _ _ _ o_t0 hW (lv_sub hl [1, 2, 3, 0] rfl) h

set_option maxHeartbeats 4000000 in
set_option maxRecDepth 20000 in
theorem gx_Model_divide_S66 {p : Program} {l : Launch} {e : Env} {s : State} {m : MethodId} {args : Array Value} {below : List Frame} {meth : Method} {c : Code} {D : va_G} {cA : Nat → ClassId} {hs : Nat → Nat} {z : gw_Sh} (F : Nat) {r0 : gw_St} (C : gw_Cx p s m args c gb_Model_divide 7 R_Model D cA) (hr : meth.sig.returnType = none) (hk : meth.locks = false) {rc_66 : gw_St → Nat → Int32 → Int32 → Int32 → Option gw_St} (k_66 : ∀ (u : gw_St) (t0 : Nat) (x1 : Int32) (x3 : Int32) (x6 : Int32) (H : Heap) (locs : List Loc) (ls : Array Slot), gw_ok z t0 9 → gw_Wx D cA hs z s u H locs → lv_has ls 7 [(0, .ref (hs t0)), (1, .int x1), (3, .int x3), (6, .int x6)] → rc_66 u t0 x1 x3 x6 = some r0 → gw_Gv p l e gr_Model_divide s m args below meth c D cA hs z r0 H locs ls 66 []) (u : gw_St) (t0 : Nat) (x1 : Int32) (x3 : Int32) (x6 : Int32) (o_t0 : gw_ok z t0 9) {H : Heap} {locs : List Loc} {ls : Array Slot} (hW : gw_Wx D cA hs z s u H locs) (hl : lv_has ls 7 [(0, .ref (hs t0)), (1, .int x1), (3, .int x3), (6, .int x6)]) (h : gf_Model_divide_S66 F z  rc_66 u t0 x1 x3 x6 = some r0) : gw_Gv p l e gr_Model_divide s m args below meth c D cA hs z r0 H locs ls 66 [] := by
  obtain ⟨hx, hb, hml, hown, hts, hK⟩ := id C
  unfold gf_Model_divide_S66 at h
  refine lv_iload hx hb gd_Model_divide_66 (lv_at hl 3 rfl) ?_
  refine lv_if_lt (tgt := 115) hx hb gd_Model_divide_68 (by decide) (fun c7 => ?_) (fun c7 => ?_)
  · have h := gf_t c7 h
    obtain rfl := Option.some.inj h
    exact gw_vret C hW hr hk gd_Model_divide_115
  · have h := gf_f c7 h
    refine lv_aload_n hx hb gd_Model_divide_71 rfl (lv_at hl 0 rfl) ?_
    refine lv_iload_n hx hb gd_Model_divide_72 rfl (lv_at hl 1 rfl) ?_
    refine lv_bipush (v := 18) hx hb gd_Model_divide_73 (by decide) ?_
    obtain ⟨a10, u8, d9, h⟩ := gf_cl_ok h
    refine gw_callVi (K := R_Model) (As := [.int x1, .int (18 : Int32)]) (rest := []) C hW (fun _ h => Or.inr h) hl.1 gm_Model_compareWide (gc_Model_compareWide l F o_t0 d9 _) gk_554 gk_555 gk_556 o_t0 (by decide) rfl rfl rfl ⟨Nat.le_of_ble_eq_true rfl, Nat.le_of_ble_eq_true rfl⟩ ⟨Nat.zero_le _, Nat.zero_le _⟩ rfl rfl (Nat.le_of_ble_eq_true rfl) gd_Model_divide_75 (fun H locs hW => ?_)
    refine lv_if_lt (tgt := 97) hx hb gd_Model_divide_78 (by decide) (fun c11 => ?_) (fun c11 => ?_)
    · have h := gf_t c11 h
      exact gx_Model_divide_b97 F C hr hk k_66 u8 t0 x1 x3 x6 o_t0 hW (lv_sub hl [0, 1, 2, 3] rfl) h
    · have h := gf_f c11 h
      refine lv_aload_n hx hb gd_Model_divide_81 rfl (lv_at hl 0 rfl) ?_
      refine lv_iload_n hx hb gd_Model_divide_82 rfl (lv_at hl 1 rfl) ?_
      refine lv_bipush (v := 18) hx hb gd_Model_divide_83 (by decide) ?_
      refine lv_iconst (v := 1) hx hb gd_Model_divide_85 (by decide) ?_
      obtain ⟨u12, d13, h⟩ := gf_bd_ok h
      refine gw_callVv (K := R_Model) (As := [.int x1, .int (18 : Int32), .int (1 : Int32)]) (rest := []) C hW (fun _ h => Or.inr h) hl.1 gm_Model_addWide (gc_Model_addWide l F o_t0 d13 _) gk_557 gk_558 gk_559 o_t0 (by decide) rfl rfl rfl ⟨Nat.le_of_ble_eq_true rfl, Nat.le_of_ble_eq_true rfl⟩ ⟨Nat.zero_le _, Nat.zero_le _⟩ rfl rfl (Nat.le_of_ble_eq_true rfl) gd_Model_divide_86 (fun H locs hW => ?_)
      refine lv_aload_n hx hb gd_Model_divide_89 rfl (lv_at hl 0 rfl) ?_
      refine lv_iload_n hx hb gd_Model_divide_90 rfl (lv_at hl 2 rfl) ?_
      refine lv_bipush (v := 19) hx hb gd_Model_divide_91 (by decide) ?_
      refine lv_iconst (v := 0) hx hb gd_Model_divide_93 (by decide) ?_
      obtain ⟨u14, d15, h⟩ := gf_bd_ok h
      refine gw_callVv (K := R_Model) (As := [.int x3, .int (19 : Int32), .int (0 : Int32)]) (rest := []) C hW (fun _ h => Or.inr h) hl.1 gm_Model_addWide (gc_Model_addWide l F o_t0 d15 _) gk_557 gk_558 gk_559 o_t0 (by decide) rfl rfl rfl ⟨Nat.le_of_ble_eq_true rfl, Nat.le_of_ble_eq_true rfl⟩ ⟨Nat.zero_le _, Nat.zero_le _⟩ rfl rfl (Nat.le_of_ble_eq_true rfl) gd_Model_divide_94 (fun H locs hW => ?_)
      exact gx_Model_divide_b97 F C hr hk k_66 u14 t0 x1 x3 x6 o_t0 hW (lv_sub hl [0, 1, 2, 3] rfl) h
set_option maxHeartbeats 4000000 in
set_option maxRecDepth 20000 in
theorem gx_Model_divide_L66 {p : Program} {l : Launch} {e : Env} {s : State} {m : MethodId} {args : Array Value} {below : List Frame} {meth : Method} {c : Code} {D : va_G} {cA : Nat → ClassId} {hs : Nat → Nat} {z : gw_Sh} (F : Nat) {r0 : gw_St} (C : gw_Cx p s m args c gb_Model_divide 7 R_Model D cA) (hr : meth.sig.returnType = none) (hk : meth.locks = false) : ∀ (n : Nat), ∀ (u : gw_St) (t0 : Nat) (x1 : Int32) (x3 : Int32) (x6 : Int32) (H : Heap) (locs : List Loc) (ls : Array Slot), gw_ok z t0 9 → gw_Wx D cA hs z s u H locs → lv_has ls 7 [(0, .ref (hs t0)), (1, .int x1), (3, .int x3), (6, .int x6)] → gf_Model_divide_L66 F z  n u t0 x1 x3 x6 = some r0 → gw_Gv p l e gr_Model_divide s m args below meth c D cA hs z r0 H locs ls 66 [] := by
  intro n
  induction n with
  | zero =>
    intro u t0 x1 x3 x6 H locs ls o_t0 hW hl h
    cases h
  | succ n ih =>
    intro u t0 x1 x3 x6 H locs ls o_t0 hW hl h
    exact gx_Model_divide_S66 F C hr hk  ih u t0 x1 x3 x6 o_t0 hW hl h

set_option maxHeartbeats 4000000 in
set_option maxRecDepth 20000 in
theorem gx_Model_divide_S37 {p : Program} {l : Launch} {e : Env} {s : State} {m : MethodId} {args : Array Value} {below : List Frame} {meth : Method} {c : Code} {D : va_G} {cA : Nat → ClassId} {hs : Nat → Nat} {z : gw_Sh} (F : Nat) {r0 : gw_St} (C : gw_Cx p s m args c gb_Model_divide 7 R_Model D cA) (hr : meth.sig.returnType = none) (hk : meth.locks = false) {rc_37 : gw_St → Nat → Int32 → Int32 → Int32 → Int32 → Option gw_St} (k_37 : ∀ (u : gw_St) (t0 : Nat) (x1 : Int32) (x3 : Int32) (x5 : Int32) (x6 : Int32) (H : Heap) (locs : List Loc) (ls : Array Slot), gw_ok z t0 9 → gw_Wx D cA hs z s u H locs → lv_has ls 7 [(0, .ref (hs t0)), (1, .int x1), (3, .int x3), (5, .int x5), (6, .int x6)] → rc_37 u t0 x1 x3 x5 x6 = some r0 → gw_Gv p l e gr_Model_divide s m args below meth c D cA hs z r0 H locs ls 37 []) (u : gw_St) (t0 : Nat) (x1 : Int32) (x3 : Int32) (x5 : Int32) (x6 : Int32) (o_t0 : gw_ok z t0 9) {H : Heap} {locs : List Loc} {ls : Array Slot} (hW : gw_Wx D cA hs z s u H locs) (hl : lv_has ls 7 [(0, .ref (hs t0)), (1, .int x1), (3, .int x3), (5, .int x5), (6, .int x6)]) (h : gf_Model_divide_S37 F z  rc_37 u t0 x1 x3 x5 x6 = some r0) : gw_Gv p l e gr_Model_divide s m args below meth c D cA hs z r0 H locs ls 37 [] := by
  obtain ⟨hx, hb, hml, hown, hts, hK⟩ := id C
  unfold gf_Model_divide_S37 at h
  refine lv_iload hx hb gd_Model_divide_37 (lv_at hl 4 rfl) ?_
  refine lv_iload hx hb gd_Model_divide_39 (lv_at hl 3 rfl) ?_
  refine lv_icmp_ge (tgt := 62) hx hb gd_Model_divide_41 (by decide) (fun c16 => ?_) (fun c16 => ?_)
  · have h := gf_t c16 h
    refine lv_iload hx hb gd_Model_divide_62 (lv_at hl 3 rfl) ?_
    refine lv_istore (lv' := [(6, .int x5), (0, .ref (hs t0)), (1, .int x1), (3, .int x3), (5, .int x5)]) hx hb gd_Model_divide_64 hl (by decide) rfl (fun ls hl => ?_)
    exact gx_Model_divide_L66 F C hr hk  F u t0 x1 x3 x5 _ _ _ o_t0 hW (lv_sub hl [1, 2, 3, 0] rfl) h
  · have h := gf_f c16 h
    refine lv_aload_n hx hb gd_Model_divide_44 rfl (lv_at hl 0 rfl) ?_
    refine lv_bipush (v := 18) hx hb gd_Model_divide_45 (by decide) ?_
    obtain ⟨u17, d18, h⟩ := gf_bd_ok h
    refine gw_callVv (K := R_Model) (As := [.int (18 : Int32)]) (rest := []) C hW (fun _ h => Or.inr h) hl.1 gm_Model_twice (gc_Model_twice l F o_t0 d18 _) gk_560 gk_561 gk_562 o_t0 (by decide) rfl rfl rfl ⟨Nat.le_of_ble_eq_true rfl, Nat.le_of_ble_eq_true rfl⟩ ⟨Nat.zero_le _, Nat.zero_le _⟩ rfl rfl (Nat.le_of_ble_eq_true rfl) gd_Model_divide_47 (fun H locs hW => ?_)
    refine lv_aload_n hx hb gd_Model_divide_50 rfl (lv_at hl 0 rfl) ?_
    refine lv_bipush (v := 19) hx hb gd_Model_divide_51 (by decide) ?_
    obtain ⟨u19, d20, h⟩ := gf_bd_ok h
    refine gw_callVv (K := R_Model) (As := [.int (19 : Int32)]) (rest := []) C hW (fun _ h => Or.inr h) hl.1 gm_Model_twice (gc_Model_twice l F o_t0 d20 _) gk_560 gk_561 gk_562 o_t0 (by decide) rfl rfl rfl ⟨Nat.le_of_ble_eq_true rfl, Nat.le_of_ble_eq_true rfl⟩ ⟨Nat.zero_le _, Nat.zero_le _⟩ rfl rfl (Nat.le_of_ble_eq_true rfl) gd_Model_divide_53 (fun H locs hW => ?_)
    obtain ⟨a21, e22⟩ : ∃ y : Int32, y = x6 + 1 := ⟨_, rfl⟩
    have h := gf_nm_ok e22 h
    refine lv_iinc (v := a21) (lv' := [(6, .int a21), (0, .ref (hs t0)), (1, .int x1), (3, .int x3), (5, .int x5)]) hx hb gd_Model_divide_56 hl (k := 4) rfl (by rw [e22]; rfl) (by decide) rfl (fun ls hl => ?_)
    refine lv_goto (tgt := 37) hx hb gd_Model_divide_59 (by decide) ?_
    exact k_37 u19 t0 x1 x3 x5 a21 _ _ _ o_t0 hW (lv_sub hl [1, 2, 3, 4, 0] rfl) h
set_option maxHeartbeats 4000000 in
set_option maxRecDepth 20000 in
theorem gx_Model_divide_L37 {p : Program} {l : Launch} {e : Env} {s : State} {m : MethodId} {args : Array Value} {below : List Frame} {meth : Method} {c : Code} {D : va_G} {cA : Nat → ClassId} {hs : Nat → Nat} {z : gw_Sh} (F : Nat) {r0 : gw_St} (C : gw_Cx p s m args c gb_Model_divide 7 R_Model D cA) (hr : meth.sig.returnType = none) (hk : meth.locks = false) : ∀ (n : Nat), ∀ (u : gw_St) (t0 : Nat) (x1 : Int32) (x3 : Int32) (x5 : Int32) (x6 : Int32) (H : Heap) (locs : List Loc) (ls : Array Slot), gw_ok z t0 9 → gw_Wx D cA hs z s u H locs → lv_has ls 7 [(0, .ref (hs t0)), (1, .int x1), (3, .int x3), (5, .int x5), (6, .int x6)] → gf_Model_divide_L37 F z  n u t0 x1 x3 x5 x6 = some r0 → gw_Gv p l e gr_Model_divide s m args below meth c D cA hs z r0 H locs ls 37 [] := by
  intro n
  induction n with
  | zero =>
    intro u t0 x1 x3 x5 x6 H locs ls o_t0 hW hl h
    cases h
  | succ n ih =>
    intro u t0 x1 x3 x5 x6 H locs ls o_t0 hW hl h
    exact gx_Model_divide_S37 F C hr hk  ih u t0 x1 x3 x5 x6 o_t0 hW hl h

set_option maxHeartbeats 4000000 in
set_option maxRecDepth 20000 in
theorem gx_Model_divide_b0 {p : Program} {l : Launch} {e : Env} {s : State} {m : MethodId} {args : Array Value} {below : List Frame} {meth : Method} {c : Code} {D : va_G} {cA : Nat → ClassId} {hs : Nat → Nat} {z : gw_Sh} (F : Nat) {r0 : gw_St} (C : gw_Cx p s m args c gb_Model_divide 7 R_Model D cA) (hr : meth.sig.returnType = none) (hk : meth.locks = false) (u : gw_St) (t0 : Nat) (x1 : Int32) (x2 : Int32) (x3 : Int32) (x4 : Int32) (o_t0 : gw_ok z t0 9) {H : Heap} {locs : List Loc} {ls : Array Slot} (hW : gw_Wx D cA hs z s u H locs) (hl : lv_has ls 7 [(0, .ref (hs t0)), (1, .int x1), (2, .int x2), (3, .int x3), (4, .int x4)]) (h : gf_Model_divide_b0 F z   u t0 x1 x2 x3 x4 = some r0) : gw_Gv p l e gr_Model_divide s m args below meth c D cA hs z r0 H locs ls 0 [] := by
  obtain ⟨hx, hb, hml, hown, hts, hK⟩ := id C
  unfold gf_Model_divide_b0 at h
  refine lv_aload_n hx hb gd_Model_divide_0 rfl (lv_at hl 0 rfl) ?_
  refine lv_iload_n hx hb gd_Model_divide_1 rfl (lv_at hl 1 rfl) ?_
  obtain ⟨a25, u23, d24, h⟩ := gf_cl_ok h
  refine gw_callVi (K := R_Model) (As := [.int x1]) (rest := []) C hW (fun _ h => Or.inr h) hl.1 gm_Model_bits (gc_Model_bits l F o_t0 d24 _) gk_563 gk_564 gk_565 o_t0 (by decide) rfl rfl rfl ⟨Nat.le_of_ble_eq_true rfl, Nat.le_of_ble_eq_true rfl⟩ ⟨Nat.zero_le _, Nat.zero_le _⟩ rfl rfl (Nat.le_of_ble_eq_true rfl) gd_Model_divide_2 (fun H locs hW => ?_)
  refine lv_aload_n hx hb gd_Model_divide_5 rfl (lv_at hl 0 rfl) ?_
  refine lv_iload_n hx hb gd_Model_divide_6 rfl (lv_at hl 2 rfl) ?_
  obtain ⟨a28, u26, d27, h⟩ := gf_cl_ok h
  refine gw_callVi (K := R_Model) (As := [.int x2]) (rest := [.int a25]) C hW (fun _ h => Or.inr h) hl.1 gm_Model_bits (gc_Model_bits l F o_t0 d27 _) gk_563 gk_564 gk_565 o_t0 (by decide) rfl rfl rfl ⟨Nat.le_of_ble_eq_true rfl, Nat.le_of_ble_eq_true rfl⟩ ⟨Nat.zero_le _, Nat.zero_le _⟩ rfl rfl (Nat.le_of_ble_eq_true rfl) gd_Model_divide_7 (fun H locs hW => ?_)
  refine lv_isub hx hb gd_Model_divide_10 ?_
  refine lv_topi (fun a29 e30 => ?_)
  have h := gf_nm_ok e30 h
  refine lv_istore (lv' := [(5, .int a29), (0, .ref (hs t0)), (1, .int x1), (2, .int x2), (3, .int x3), (4, .int x4)]) hx hb gd_Model_divide_11 hl (by decide) rfl (fun ls hl => ?_)
  refine lv_iload hx hb gd_Model_divide_13 (lv_at hl 0 rfl) ?_
  refine lv_if_ge (tgt := 19) hx hb gd_Model_divide_15 (by decide) (fun c31 => ?_) (fun c31 => ?_)
  · have h := gf_t c31 h
    refine lv_aload_n hx hb gd_Model_divide_19 rfl (lv_at hl 1 rfl) ?_
    refine lv_bipush (v := 18) hx hb gd_Model_divide_20 (by decide) ?_
    refine lv_iload_n hx hb gd_Model_divide_22 rfl (lv_at hl 3 rfl) ?_
    obtain ⟨u32, d33, h⟩ := gf_bd_ok h
    refine gw_callVv (K := R_Model) (As := [.int (18 : Int32), .int x2]) (rest := []) C hW (fun _ h => Or.inr h) hl.1 gm_Model_copyWide (gc_Model_copyWide l F o_t0 d33 _) gk_566 gk_567 gk_568 o_t0 (by decide) rfl rfl rfl ⟨Nat.le_of_ble_eq_true rfl, Nat.le_of_ble_eq_true rfl⟩ ⟨Nat.zero_le _, Nat.zero_le _⟩ rfl rfl (Nat.le_of_ble_eq_true rfl) gd_Model_divide_23 (fun H locs hW => ?_)
    refine lv_aload_n hx hb gd_Model_divide_26 rfl (lv_at hl 1 rfl) ?_
    refine lv_bipush (v := 19) hx hb gd_Model_divide_27 (by decide) ?_
    refine lv_iload hx hb gd_Model_divide_29 (lv_at hl 5 rfl) ?_
    obtain ⟨u34, d35, h⟩ := gf_bd_ok h
    refine gw_callVv (K := R_Model) (As := [.int (19 : Int32), .int x4]) (rest := []) C hW (fun _ h => Or.inr h) hl.1 gm_Model_copyWide (gc_Model_copyWide l F o_t0 d35 _) gk_566 gk_567 gk_568 o_t0 (by decide) rfl rfl rfl ⟨Nat.le_of_ble_eq_true rfl, Nat.le_of_ble_eq_true rfl⟩ ⟨Nat.zero_le _, Nat.zero_le _⟩ rfl rfl (Nat.le_of_ble_eq_true rfl) gd_Model_divide_31 (fun H locs hW => ?_)
    refine lv_iconst (v := 0) hx hb gd_Model_divide_34 (by decide) ?_
    refine lv_istore (lv' := [(6, .int 0), (5, .int a29), (0, .ref (hs t0)), (1, .int x1), (2, .int x2), (3, .int x3), (4, .int x4)]) hx hb gd_Model_divide_35 hl (by decide) rfl (fun ls hl => ?_)
    exact gx_Model_divide_L37 F C hr hk  F u34 t0 x1 x3 a29 0 _ _ _ o_t0 hW (lv_sub hl [2, 3, 5, 1, 0] rfl) h
  · have h := gf_f c31 h
    obtain rfl := Option.some.inj h
    exact gw_vret C hW hr hk gd_Model_divide_18

set_option maxRecDepth 20000 in
theorem gc_Model_divide (l : Launch) {D : va_G} {cA : Nat → ClassId} {hs : Nat → Nat} {z : gw_Sh} (F : Nat) {u : gw_St} {r0 : gw_St} {t0 : Nat} {x1 : Int32} {x2 : Int32} {x3 : Int32} {x4 : Int32} (o_t0 : gw_ok z t0 9) (h : gf_Model_divide F z u t0 x1 x2 x3 x4 = some r0) (sz : Nat) : gw_Mv l gy_Model_divide gb_Model_divide 7 none gr_Model_divide [.ref (hs t0), .int x1, .int x2, .int x3, .int x4] D cA hs z u sz r0 := by
  refine gw_enter (by decide) (Nat.le_of_ble_eq_true rfl) ?_
  intro p e s m below meth c ls hsz C hW hr hk _ hl
  subst hsz
  exact gx_Model_divide_b0 F C hr hk u t0 x1 x2 x3 x4 o_t0 hW (lv_sub hl [0, 1, 2, 3, 4] rfl) h
-- GearDeskModel.greatest(II)V
theorem gk_570 : Cond.methodLink R_Model 293 gy_Model_setWide ∈ gt_T := gt_m7 (List.mem_of_getElem? (i := 133) rfl) rfl
theorem gk_571 : Cond.instanceMethod gy_Model_setWide ∈ gt_T := gt_m7 (List.mem_of_getElem? (i := 135) rfl) rfl
theorem gk_572 : Cond.selects R_Model gy_Model_setWide gy_Model_setWide ∈ gt_T := gt_p4 (List.mem_of_getElem? (i := 8) rfl) rfl
theorem gk_573 : Cond.methodLink R_Model 296 gy_Model_divide ∈ gt_T := gt_m7 (List.mem_of_getElem? (i := 171) rfl) rfl
theorem gk_574 : Cond.instanceMethod gy_Model_divide ∈ gt_T := gt_m7 (List.mem_of_getElem? (i := 173) rfl) rfl
theorem gk_575 : Cond.selects R_Model gy_Model_divide gy_Model_divide ∈ gt_T := gt_p5 (List.mem_of_getElem? (i := 1) rfl) rfl
def gy_Model_greatest : MethodName := ⟨R_Model, "greatest", "(II)V"⟩
abbrev gb_Model_greatest : ByteArray := prog_11_method_57_code
theorem gk_576 : Cond.code gy_Model_greatest gb_Model_greatest 3 none ∈ gt_T := gt_m7 (List.mem_of_getElem? (i := 226) rfl) rfl
def gr_Model_greatest : Room := gw_rm 4 140
theorem gm_Model_greatest : gw_Mth gy_Model_greatest gb_Model_greatest 3 none 2 := ⟨gk_576, gk_377, ⟨by decide +kernel, by decide +kernel⟩, by decide +kernel⟩
theorem gd_Model_greatest_0 : decode gb_Model_greatest 0 = .ok (.aload_n 0, 1) := by decide +kernel
theorem gd_Model_greatest_1 : decode gb_Model_greatest 1 = .ok (.bipush 17, 2) := by decide +kernel
theorem gd_Model_greatest_3 : decode gb_Model_greatest 3 = .ok (.lconst 0, 1) := by decide +kernel
theorem gd_Model_greatest_4 : decode gb_Model_greatest 4 = .ok (.invokevirtual 293, 3) := by decide +kernel
theorem gd_Model_greatest_7 : decode gb_Model_greatest 7 = .ok (.aload_n 0, 1) := by decide +kernel
theorem gd_Model_greatest_8 : decode gb_Model_greatest 8 = .ok (.iload_n 2, 1) := by decide +kernel
theorem gd_Model_greatest_9 : decode gb_Model_greatest 9 = .ok (.invokevirtual 260, 3) := by decide +kernel
theorem gd_Model_greatest_12 : decode gb_Model_greatest 12 = .ok (.ifCond .le 43, 3) := by decide +kernel
theorem gd_Model_greatest_15 : decode gb_Model_greatest 15 = .ok (.aload_n 0, 1) := by decide +kernel
theorem gd_Model_greatest_16 : decode gb_Model_greatest 16 = .ok (.bipush 16, 2) := by decide +kernel
theorem gd_Model_greatest_18 : decode gb_Model_greatest 18 = .ok (.lconst 0, 1) := by decide +kernel
theorem gd_Model_greatest_19 : decode gb_Model_greatest 19 = .ok (.invokevirtual 293, 3) := by decide +kernel
theorem gd_Model_greatest_22 : decode gb_Model_greatest 22 = .ok (.aload_n 0, 1) := by decide +kernel
theorem gd_Model_greatest_23 : decode gb_Model_greatest 23 = .ok (.iload_n 1, 1) := by decide +kernel
theorem gd_Model_greatest_24 : decode gb_Model_greatest 24 = .ok (.iload_n 2, 1) := by decide +kernel
theorem gd_Model_greatest_25 : decode gb_Model_greatest 25 = .ok (.bipush 16, 2) := by decide +kernel
theorem gd_Model_greatest_27 : decode gb_Model_greatest 27 = .ok (.bipush 17, 2) := by decide +kernel
theorem gd_Model_greatest_29 : decode gb_Model_greatest 29 = .ok (.invokevirtual 296, 3) := by decide +kernel
theorem gd_Model_greatest_32 : decode gb_Model_greatest 32 = .ok (.aload_n 0, 1) := by decide +kernel
theorem gd_Model_greatest_33 : decode gb_Model_greatest 33 = .ok (.bipush 16, 2) := by decide +kernel
theorem gd_Model_greatest_35 : decode gb_Model_greatest 35 = .ok (.iload_n 1, 1) := by decide +kernel
theorem gd_Model_greatest_36 : decode gb_Model_greatest 36 = .ok (.invokevirtual 277, 3) := by decide +kernel
theorem gd_Model_greatest_39 : decode gb_Model_greatest 39 = .ok (.aload_n 0, 1) := by decide +kernel
theorem gd_Model_greatest_40 : decode gb_Model_greatest 40 = .ok (.iload_n 1, 1) := by decide +kernel
theorem gd_Model_greatest_41 : decode gb_Model_greatest 41 = .ok (.iload_n 2, 1) := by decide +kernel
theorem gd_Model_greatest_42 : decode gb_Model_greatest 42 = .ok (.invokevirtual 277, 3) := by decide +kernel
theorem gd_Model_greatest_45 : decode gb_Model_greatest 45 = .ok (.aload_n 0, 1) := by decide +kernel
theorem gd_Model_greatest_46 : decode gb_Model_greatest 46 = .ok (.iload_n 2, 1) := by decide +kernel
theorem gd_Model_greatest_47 : decode gb_Model_greatest 47 = .ok (.bipush 16, 2) := by decide +kernel
theorem gd_Model_greatest_49 : decode gb_Model_greatest 49 = .ok (.invokevirtual 277, 3) := by decide +kernel
theorem gd_Model_greatest_52 : decode gb_Model_greatest 52 = .ok (.goto (-45), 3) := by decide +kernel
theorem gd_Model_greatest_55 : decode gb_Model_greatest 55 = .ok (.return_, 1) := by decide +kernel
def gf_Model_greatest_S7 (F : Nat) (z : gw_Sh)  (rc_7 : gw_St → Nat → Int32 → Int32 → Option gw_St) (u : gw_St) (t0 : Nat) (x1 : Int32) (x2 : Int32) : Option gw_St :=
  gf_cl (gf_Model_size F z u t0 x2) fun a3 u1 => if a3 ≤ 0 then (some u1) else ((gf_Model_setWide F z u1 t0 (16 : Int32) (0 : Int64)).bind fun u5 => (gf_Model_divide F z u5 t0 x1 x2 (16 : Int32) (17 : Int32)).bind fun u7 => (gf_Model_copyWide F z u7 t0 (16 : Int32) x1).bind fun u9 => (gf_Model_copyWide F z u9 t0 x1 x2).bind fun u11 => (gf_Model_copyWide F z u11 t0 x2 (16 : Int32)).bind fun u13 => rc_7 u13 t0 x1 x2)
def gf_Model_greatest_L7 (F : Nat) (z : gw_Sh)  : Nat → gw_St → Nat → Int32 → Int32 → Option gw_St
  | 0 => fun _ _ _ _ => none
  | n + 1 => fun u t0 x1 x2 => gf_Model_greatest_S7 F z  (gf_Model_greatest_L7 F z  n) u t0 x1 x2
def gf_Model_greatest_b0 (F : Nat) (z : gw_Sh)  (u : gw_St) (t0 : Nat) (x1 : Int32) (x2 : Int32) : Option gw_St :=
  (gf_Model_setWide F z u t0 (17 : Int32) (0 : Int64)).bind fun u15 => gf_Model_greatest_L7 F z  F u15 t0 x1 x2
def gf_Model_greatest (F : Nat) (z : gw_Sh) (u : gw_St) (t0 : Nat) (x1 : Int32) (x2 : Int32) : Option gw_St := gf_Model_greatest_b0 F z  u t0 x1 x2
set_option maxHeartbeats 4000000 in
set_option maxRecDepth 20000 in
theorem gx_Model_greatest_S7 {p : Program} {l : Launch} {e : Env} {s : State} {m : MethodId} {args : Array Value} {below : List Frame} {meth : Method} {c : Code} {D : va_G} {cA : Nat → ClassId} {hs : Nat → Nat} {z : gw_Sh} (F : Nat) {r0 : gw_St} (C : gw_Cx p s m args c gb_Model_greatest 3 R_Model D cA) (hr : meth.sig.returnType = none) (hk : meth.locks = false) {rc_7 : gw_St → Nat → Int32 → Int32 → Option gw_St} (k_7 : ∀ (u : gw_St) (t0 : Nat) (x1 : Int32) (x2 : Int32) (H : Heap) (locs : List Loc) (ls : Array Slot), gw_ok z t0 9 → gw_Wx D cA hs z s u H locs → lv_has ls 3 [(0, .ref (hs t0)), (1, .int x1), (2, .int x2)] → rc_7 u t0 x1 x2 = some r0 → gw_Gv p l e gr_Model_greatest s m args below meth c D cA hs z r0 H locs ls 7 []) (u : gw_St) (t0 : Nat) (x1 : Int32) (x2 : Int32) (o_t0 : gw_ok z t0 9) {H : Heap} {locs : List Loc} {ls : Array Slot} (hW : gw_Wx D cA hs z s u H locs) (hl : lv_has ls 3 [(0, .ref (hs t0)), (1, .int x1), (2, .int x2)]) (h : gf_Model_greatest_S7 F z  rc_7 u t0 x1 x2 = some r0) : gw_Gv p l e gr_Model_greatest s m args below meth c D cA hs z r0 H locs ls 7 [] := by
  obtain ⟨hx, hb, hml, hown, hts, hK⟩ := id C
  unfold gf_Model_greatest_S7 at h
  refine lv_aload_n hx hb gd_Model_greatest_7 rfl (lv_at hl 0 rfl) ?_
  refine lv_iload_n hx hb gd_Model_greatest_8 rfl (lv_at hl 2 rfl) ?_
  obtain ⟨a3, u1, d2, h⟩ := gf_cl_ok h
  refine gw_callVi (K := R_Model) (As := [.int x2]) (rest := []) C hW (fun _ h => Or.inr h) hl.1 gm_Model_size (gc_Model_size l F o_t0 d2 _) gk_530 gk_531 gk_532 o_t0 (by decide) rfl rfl rfl ⟨Nat.le_of_ble_eq_true rfl, Nat.le_of_ble_eq_true rfl⟩ ⟨Nat.zero_le _, Nat.zero_le _⟩ rfl rfl (Nat.le_of_ble_eq_true rfl) gd_Model_greatest_9 (fun H locs hW => ?_)
  refine lv_if_le (tgt := 55) hx hb gd_Model_greatest_12 (by decide) (fun c4 => ?_) (fun c4 => ?_)
  · have h := gf_t c4 h
    obtain rfl := Option.some.inj h
    exact gw_vret C hW hr hk gd_Model_greatest_55
  · have h := gf_f c4 h
    refine lv_aload_n hx hb gd_Model_greatest_15 rfl (lv_at hl 0 rfl) ?_
    refine lv_bipush (v := 16) hx hb gd_Model_greatest_16 (by decide) ?_
    refine lv_lconst (v := 0) hx hb gd_Model_greatest_18 (by decide) ?_
    obtain ⟨u5, d6, h⟩ := gf_bd_ok h
    refine gw_callVv (K := R_Model) (As := [.int (16 : Int32), .long (0 : Int64)]) (rest := []) C hW (fun _ h => Or.inr h) hl.1 gm_Model_setWide (gc_Model_setWide l F o_t0 d6 _) gk_570 gk_571 gk_572 o_t0 (by decide) rfl rfl rfl ⟨Nat.le_of_ble_eq_true rfl, Nat.le_of_ble_eq_true rfl⟩ ⟨Nat.zero_le _, Nat.zero_le _⟩ rfl rfl (Nat.le_of_ble_eq_true rfl) gd_Model_greatest_19 (fun H locs hW => ?_)
    refine lv_aload_n hx hb gd_Model_greatest_22 rfl (lv_at hl 0 rfl) ?_
    refine lv_iload_n hx hb gd_Model_greatest_23 rfl (lv_at hl 1 rfl) ?_
    refine lv_iload_n hx hb gd_Model_greatest_24 rfl (lv_at hl 2 rfl) ?_
    refine lv_bipush (v := 16) hx hb gd_Model_greatest_25 (by decide) ?_
    refine lv_bipush (v := 17) hx hb gd_Model_greatest_27 (by decide) ?_
    obtain ⟨u7, d8, h⟩ := gf_bd_ok h
    refine gw_callVv (K := R_Model) (As := [.int x1, .int x2, .int (16 : Int32), .int (17 : Int32)]) (rest := []) C hW (fun _ h => Or.inr h) hl.1 gm_Model_divide (gc_Model_divide l F o_t0 d8 _) gk_573 gk_574 gk_575 o_t0 (by decide) rfl rfl rfl ⟨Nat.le_of_ble_eq_true rfl, Nat.le_of_ble_eq_true rfl⟩ ⟨Nat.zero_le _, Nat.zero_le _⟩ rfl rfl (Nat.le_of_ble_eq_true rfl) gd_Model_greatest_29 (fun H locs hW => ?_)
    refine lv_aload_n hx hb gd_Model_greatest_32 rfl (lv_at hl 0 rfl) ?_
    refine lv_bipush (v := 16) hx hb gd_Model_greatest_33 (by decide) ?_
    refine lv_iload_n hx hb gd_Model_greatest_35 rfl (lv_at hl 1 rfl) ?_
    obtain ⟨u9, d10, h⟩ := gf_bd_ok h
    refine gw_callVv (K := R_Model) (As := [.int (16 : Int32), .int x1]) (rest := []) C hW (fun _ h => Or.inr h) hl.1 gm_Model_copyWide (gc_Model_copyWide l F o_t0 d10 _) gk_566 gk_567 gk_568 o_t0 (by decide) rfl rfl rfl ⟨Nat.le_of_ble_eq_true rfl, Nat.le_of_ble_eq_true rfl⟩ ⟨Nat.zero_le _, Nat.zero_le _⟩ rfl rfl (Nat.le_of_ble_eq_true rfl) gd_Model_greatest_36 (fun H locs hW => ?_)
    refine lv_aload_n hx hb gd_Model_greatest_39 rfl (lv_at hl 0 rfl) ?_
    refine lv_iload_n hx hb gd_Model_greatest_40 rfl (lv_at hl 1 rfl) ?_
    refine lv_iload_n hx hb gd_Model_greatest_41 rfl (lv_at hl 2 rfl) ?_
    obtain ⟨u11, d12, h⟩ := gf_bd_ok h
    refine gw_callVv (K := R_Model) (As := [.int x1, .int x2]) (rest := []) C hW (fun _ h => Or.inr h) hl.1 gm_Model_copyWide (gc_Model_copyWide l F o_t0 d12 _) gk_566 gk_567 gk_568 o_t0 (by decide) rfl rfl rfl ⟨Nat.le_of_ble_eq_true rfl, Nat.le_of_ble_eq_true rfl⟩ ⟨Nat.zero_le _, Nat.zero_le _⟩ rfl rfl (Nat.le_of_ble_eq_true rfl) gd_Model_greatest_42 (fun H locs hW => ?_)
    refine lv_aload_n hx hb gd_Model_greatest_45 rfl (lv_at hl 0 rfl) ?_
    refine lv_iload_n hx hb gd_Model_greatest_46 rfl (lv_at hl 2 rfl) ?_
    refine lv_bipush (v := 16) hx hb gd_Model_greatest_47 (by decide) ?_
    obtain ⟨u13, d14, h⟩ := gf_bd_ok h
    refine gw_callVv (K := R_Model) (As := [.int x2, .int (16 : Int32)]) (rest := []) C hW (fun _ h => Or.inr h) hl.1 gm_Model_copyWide (gc_Model_copyWide l F o_t0 d14 _) gk_566 gk_567 gk_568 o_t0 (by decide) rfl rfl rfl ⟨Nat.le_of_ble_eq_true rfl, Nat.le_of_ble_eq_true rfl⟩ ⟨Nat.zero_le _, Nat.zero_le _⟩ rfl rfl (Nat.le_of_ble_eq_true rfl) gd_Model_greatest_49 (fun H locs hW => ?_)
    refine lv_goto (tgt := 7) hx hb gd_Model_greatest_52 (by decide) ?_
    exact k_7 u13 t0 x1 x2 _ _ _ o_t0 hW (lv_sub hl [0, 1, 2] rfl) h
set_option maxHeartbeats 4000000 in
set_option maxRecDepth 20000 in
theorem gx_Model_greatest_L7 {p : Program} {l : Launch} {e : Env} {s : State} {m : MethodId} {args : Array Value} {below : List Frame} {meth : Method} {c : Code} {D : va_G} {cA : Nat → ClassId} {hs : Nat → Nat} {z : gw_Sh} (F : Nat) {r0 : gw_St} (C : gw_Cx p s m args c gb_Model_greatest 3 R_Model D cA) (hr : meth.sig.returnType = none) (hk : meth.locks = false) : ∀ (n : Nat), ∀ (u : gw_St) (t0 : Nat) (x1 : Int32) (x2 : Int32) (H : Heap) (locs : List Loc) (ls : Array Slot), gw_ok z t0 9 → gw_Wx D cA hs z s u H locs → lv_has ls 3 [(0, .ref (hs t0)), (1, .int x1), (2, .int x2)] → gf_Model_greatest_L7 F z  n u t0 x1 x2 = some r0 → gw_Gv p l e gr_Model_greatest s m args below meth c D cA hs z r0 H locs ls 7 [] := by
  intro n
  induction n with
  | zero =>
    intro u t0 x1 x2 H locs ls o_t0 hW hl h
    cases h
  | succ n ih =>
    intro u t0 x1 x2 H locs ls o_t0 hW hl h
    exact gx_Model_greatest_S7 F C hr hk  ih u t0 x1 x2 o_t0 hW hl h

set_option maxHeartbeats 4000000 in
set_option maxRecDepth 20000 in
theorem gx_Model_greatest_b0 {p : Program} {l : Launch} {e : Env} {s : State} {m : MethodId} {args : Array Value} {below : List Frame} {meth : Method} {c : Code} {D : va_G} {cA : Nat → ClassId} {hs : Nat → Nat} {z : gw_Sh} (F : Nat) {r0 : gw_St} (C : gw_Cx p s m args c gb_Model_greatest 3 R_Model D cA) (hr : meth.sig.returnType = none) (hk : meth.locks = false) (u : gw_St) (t0 : Nat) (x1 : Int32) (x2 : Int32) (o_t0 : gw_ok z t0 9) {H : Heap} {locs : List Loc} {ls : Array Slot} (hW : gw_Wx D cA hs z s u H locs) (hl : lv_has ls 3 [(0, .ref (hs t0)), (1, .int x1), (2, .int x2)]) (h : gf_Model_greatest_b0 F z   u t0 x1 x2 = some r0) : gw_Gv p l e gr_Model_greatest s m args below meth c D cA hs z r0 H locs ls 0 [] := by
  obtain ⟨hx, hb, hml, hown, hts, hK⟩ := id C
  unfold gf_Model_greatest_b0 at h
  refine lv_aload_n hx hb gd_Model_greatest_0 rfl (lv_at hl 0 rfl) ?_
  refine lv_bipush (v := 17) hx hb gd_Model_greatest_1 (by decide) ?_
  refine lv_lconst (v := 0) hx hb gd_Model_greatest_3 (by decide) ?_
  obtain ⟨u15, d16, h⟩ := gf_bd_ok h
  refine gw_callVv (K := R_Model) (As := [.int (17 : Int32), .long (0 : Int64)]) (rest := []) C hW (fun _ h => Or.inr h) hl.1 gm_Model_setWide (gc_Model_setWide l F o_t0 d16 _) gk_570 gk_571 gk_572 o_t0 (by decide) rfl rfl rfl ⟨Nat.le_of_ble_eq_true rfl, Nat.le_of_ble_eq_true rfl⟩ ⟨Nat.zero_le _, Nat.zero_le _⟩ rfl rfl (Nat.le_of_ble_eq_true rfl) gd_Model_greatest_4 (fun H locs hW => ?_)
  exact gx_Model_greatest_L7 F C hr hk  F u15 t0 x1 x2 _ _ _ o_t0 hW (lv_sub hl [0, 1, 2] rfl) h

set_option maxRecDepth 20000 in
theorem gc_Model_greatest (l : Launch) {D : va_G} {cA : Nat → ClassId} {hs : Nat → Nat} {z : gw_Sh} (F : Nat) {u : gw_St} {r0 : gw_St} {t0 : Nat} {x1 : Int32} {x2 : Int32} (o_t0 : gw_ok z t0 9) (h : gf_Model_greatest F z u t0 x1 x2 = some r0) (sz : Nat) : gw_Mv l gy_Model_greatest gb_Model_greatest 3 none gr_Model_greatest [.ref (hs t0), .int x1, .int x2] D cA hs z u sz r0 := by
  refine gw_enter (by decide) (Nat.le_of_ble_eq_true rfl) ?_
  intro p e s m below meth c ls hsz C hW hr hk _ hl
  subst hsz
  exact gx_Model_greatest_b0 F C hr hk u t0 x1 x2 o_t0 hW (lv_sub hl [0, 1, 2] rfl) h
