-- GearDesk$Whole.settle(II)V
theorem gk_13 : Cond.fieldLink R_Whole 41 R_Whole "sign" "I" ∈ gt_T := gt_m1 (List.mem_of_getElem? (i := 150) rfl) rfl
theorem gk_14 : Cond.fieldLink R_Whole 31 R_Whole "size" "I" ∈ gt_T := gt_m1 (List.mem_of_getElem? (i := 146) rfl) rfl
theorem gk_15 : Cond.fieldLink R_Whole 9 R_Whole "limbs" "[I" ∈ gt_T := gt_m1 (List.mem_of_getElem? (i := 143) rfl) rfl
theorem gk_16 : Cond.initialized R_Whole ∈ gt_T := gt_m1 (List.mem_of_getElem? (i := 5) rfl) rfl
def gy_Whole_settle : MethodName := ⟨R_Whole, "settle", "(II)V"⟩
abbrev gb_Whole_settle : ByteArray := prog_8_method_12_code
theorem gk_17 : Cond.code gy_Whole_settle gb_Whole_settle 3 none ∈ gt_T := gt_m2 (List.mem_of_getElem? (i := 70) rfl) rfl
def gr_Whole_settle : Room := gw_rm 1 64
theorem gm_Whole_settle : gw_Mth gy_Whole_settle gb_Whole_settle 3 none 2 := ⟨gk_17, gk_16, ⟨by decide +kernel, by decide +kernel⟩, by decide +kernel⟩
theorem gd_Whole_settle_0 : decode gb_Whole_settle 0 = .ok (.aload_n 0, 1) := by decide +kernel
theorem gd_Whole_settle_1 : decode gb_Whole_settle 1 = .ok (.iload_n 1, 1) := by decide +kernel
theorem gd_Whole_settle_2 : decode gb_Whole_settle 2 = .ok (.putfield 31, 3) := by decide +kernel
theorem gd_Whole_settle_5 : decode gb_Whole_settle 5 = .ok (.aload_n 0, 1) := by decide +kernel
theorem gd_Whole_settle_6 : decode gb_Whole_settle 6 = .ok (.getfield 31, 3) := by decide +kernel
theorem gd_Whole_settle_9 : decode gb_Whole_settle 9 = .ok (.ifCond .le 30, 3) := by decide +kernel
theorem gd_Whole_settle_12 : decode gb_Whole_settle 12 = .ok (.aload_n 0, 1) := by decide +kernel
theorem gd_Whole_settle_13 : decode gb_Whole_settle 13 = .ok (.getfield 9, 3) := by decide +kernel
theorem gd_Whole_settle_16 : decode gb_Whole_settle 16 = .ok (.aload_n 0, 1) := by decide +kernel
theorem gd_Whole_settle_17 : decode gb_Whole_settle 17 = .ok (.getfield 31, 3) := by decide +kernel
theorem gd_Whole_settle_20 : decode gb_Whole_settle 20 = .ok (.iconst 1, 1) := by decide +kernel
theorem gd_Whole_settle_21 : decode gb_Whole_settle 21 = .ok (.isub, 1) := by decide +kernel
theorem gd_Whole_settle_22 : decode gb_Whole_settle 22 = .ok (.iaload, 1) := by decide +kernel
theorem gd_Whole_settle_23 : decode gb_Whole_settle 23 = .ok (.ifCond .ne 16, 3) := by decide +kernel
theorem gd_Whole_settle_26 : decode gb_Whole_settle 26 = .ok (.aload_n 0, 1) := by decide +kernel
theorem gd_Whole_settle_27 : decode gb_Whole_settle 27 = .ok (.dup, 1) := by decide +kernel
theorem gd_Whole_settle_28 : decode gb_Whole_settle 28 = .ok (.getfield 31, 3) := by decide +kernel
theorem gd_Whole_settle_31 : decode gb_Whole_settle 31 = .ok (.iconst 1, 1) := by decide +kernel
theorem gd_Whole_settle_32 : decode gb_Whole_settle 32 = .ok (.isub, 1) := by decide +kernel
theorem gd_Whole_settle_33 : decode gb_Whole_settle 33 = .ok (.putfield 31, 3) := by decide +kernel
theorem gd_Whole_settle_36 : decode gb_Whole_settle 36 = .ok (.goto (-31), 3) := by decide +kernel
theorem gd_Whole_settle_39 : decode gb_Whole_settle 39 = .ok (.aload_n 0, 1) := by decide +kernel
theorem gd_Whole_settle_40 : decode gb_Whole_settle 40 = .ok (.aload_n 0, 1) := by decide +kernel
theorem gd_Whole_settle_41 : decode gb_Whole_settle 41 = .ok (.getfield 31, 3) := by decide +kernel
theorem gd_Whole_settle_44 : decode gb_Whole_settle 44 = .ok (.ifCond .ne 7, 3) := by decide +kernel
theorem gd_Whole_settle_47 : decode gb_Whole_settle 47 = .ok (.iconst 0, 1) := by decide +kernel
theorem gd_Whole_settle_48 : decode gb_Whole_settle 48 = .ok (.goto 4, 3) := by decide +kernel
theorem gd_Whole_settle_51 : decode gb_Whole_settle 51 = .ok (.iload_n 2, 1) := by decide +kernel
theorem gd_Whole_settle_52 : decode gb_Whole_settle 52 = .ok (.putfield 41, 3) := by decide +kernel
theorem gd_Whole_settle_55 : decode gb_Whole_settle 55 = .ok (.return_, 1) := by decide +kernel
def gf_Whole_settle_b52 (F : Nat) (z : gw_Sh)  (u : gw_St) (st0 : Nat) (sx1 : Int32) : Option gw_St :=
  gf_nm (gw_wi u st0 2 sx1) fun u1 => some u1
def gf_Whole_settle_b39 (F : Nat) (z : gw_Sh)  (u : gw_St) (t0 : Nat) (x2 : Int32) : Option gw_St :=
  if (u.1 t0 1) = 0 then (gf_Whole_settle_b52 F z  u t0 0) else (gf_Whole_settle_b52 F z  u t0 x2)
def gf_Whole_settle_S5 (F : Nat) (z : gw_Sh)  (rc_5 : gw_St → Nat → Int32 → Option gw_St) (u : gw_St) (t0 : Nat) (x2 : Int32) : Option gw_St :=
  if (u.1 t0 1) ≤ 0 then (gf_Whole_settle_b39 F z  u t0 x2) else (gf_nn (u.2.2 t0 0) fun q5 => if (((u.1 t0 1) - (1 : Int32)) < 0 ∨ z.2.2 q5 ≤ (((u.1 t0 1) - (1 : Int32))).toNatClampNeg) then none else if (u.1 q5 (((u.1 t0 1) - (1 : Int32))).toNatClampNeg) = 0 then (gf_nm (gw_wi u t0 1 ((u.1 t0 1) - (1 : Int32))) fun u9 => rc_5 u9 t0 x2) else (gf_Whole_settle_b39 F z  u t0 x2))
def gf_Whole_settle_L5 (F : Nat) (z : gw_Sh)  : Nat → gw_St → Nat → Int32 → Option gw_St
  | 0 => fun _ _ _ => none
  | n + 1 => fun u t0 x2 => gf_Whole_settle_S5 F z  (gf_Whole_settle_L5 F z  n) u t0 x2
def gf_Whole_settle_b0 (F : Nat) (z : gw_Sh)  (u : gw_St) (t0 : Nat) (x1 : Int32) (x2 : Int32) : Option gw_St :=
  gf_nm (gw_wi u t0 1 x1) fun u11 => gf_Whole_settle_L5 F z  F u11 t0 x2
def gf_Whole_settle (F : Nat) (z : gw_Sh) (u : gw_St) (t0 : Nat) (x1 : Int32) (x2 : Int32) : Option gw_St := gf_Whole_settle_b0 F z  u t0 x1 x2
set_option maxHeartbeats 4000000 in
set_option maxRecDepth 20000 in
theorem gx_Whole_settle_b52 {p : Program} {l : Launch} {e : Env} {s : State} {m : MethodId} {args : Array Value} {below : List Frame} {meth : Method} {c : Code} {D : va_G} {cA : Nat → ClassId} {hs : Nat → Nat} {z : gw_Sh} (F : Nat) {r0 : gw_St} (C : gw_Cx p s m args c gb_Whole_settle 3 R_Whole D cA) (hr : meth.sig.returnType = none) (hk : meth.locks = false) (u : gw_St) (st0 : Nat) (sx1 : Int32) (o_st0 : gw_ok z st0 8) {H : Heap} {locs : List Loc} {ls : Array Slot} (hW : gw_Wx D cA hs z s u H locs) (hl : lv_has ls 3 []) (h : gf_Whole_settle_b52 F z   u st0 sx1 = some r0) : gw_Gv p l e gr_Whole_settle s m args below meth c D cA hs z r0 H locs ls 52 [.int sx1, .ref (hs st0)] := by
  obtain ⟨hx, hb, hml, hown, hts, hK⟩ := id C
  unfold gf_Whole_settle_b52 at h
  refine gw_puti (k := 2) (ref := R_Whole) (fty := .int) C hW o_st0 (by decide) rfl gi_Whole rfl (by decide) rfl rfl gk_13 tf_Whole tf_Whole_ok nm_Whole rfl rfl rfl rfl gd_Whole_settle_52 (fun u1 H locs e2 hW => ?_)
  have h := gf_nm_ok e2 h
  obtain rfl := Option.some.inj h
  exact gw_vret C hW hr hk gd_Whole_settle_55

set_option maxHeartbeats 4000000 in
set_option maxRecDepth 20000 in
theorem gx_Whole_settle_b39 {p : Program} {l : Launch} {e : Env} {s : State} {m : MethodId} {args : Array Value} {below : List Frame} {meth : Method} {c : Code} {D : va_G} {cA : Nat → ClassId} {hs : Nat → Nat} {z : gw_Sh} (F : Nat) {r0 : gw_St} (C : gw_Cx p s m args c gb_Whole_settle 3 R_Whole D cA) (hr : meth.sig.returnType = none) (hk : meth.locks = false) (u : gw_St) (t0 : Nat) (x2 : Int32) (o_t0 : gw_ok z t0 8) {H : Heap} {locs : List Loc} {ls : Array Slot} (hW : gw_Wx D cA hs z s u H locs) (hl : lv_has ls 3 [(0, .ref (hs t0)), (2, .int x2)]) (h : gf_Whole_settle_b39 F z   u t0 x2 = some r0) : gw_Gv p l e gr_Whole_settle s m args below meth c D cA hs z r0 H locs ls 39 [] := by
  obtain ⟨hx, hb, hml, hown, hts, hK⟩ := id C
  unfold gf_Whole_settle_b39 at h
  refine lv_aload_n hx hb gd_Whole_settle_39 rfl (lv_at hl 0 rfl) ?_
  refine lv_aload_n hx hb gd_Whole_settle_40 rfl (lv_at hl 0 rfl) ?_
  refine gw_geti (k := 1) (ref := R_Whole) C hW o_t0 (by decide) rfl gi_Whole rfl (by decide) rfl rfl gk_14 gd_Whole_settle_41 ?_
  refine lv_if_ne (tgt := 51) hx hb gd_Whole_settle_44 (by decide) (fun c3 => ?_) (fun c3 => ?_)
  · have h := gf_f c3 h
    refine lv_iload_n hx hb gd_Whole_settle_51 rfl (lv_at hl 1 rfl) ?_
    exact gx_Whole_settle_b52 F C hr hk  u t0 x2 o_t0 hW (lv_sub hl [] rfl) h
  · have h := gf_t c3 h
    refine lv_iconst (v := 0) hx hb gd_Whole_settle_47 (by decide) ?_
    refine lv_goto (tgt := 52) hx hb gd_Whole_settle_48 (by decide) ?_
    exact gx_Whole_settle_b52 F C hr hk  u t0 0 o_t0 hW (lv_sub hl [] rfl) h

set_option maxHeartbeats 4000000 in
set_option maxRecDepth 20000 in
theorem gx_Whole_settle_S5 {p : Program} {l : Launch} {e : Env} {s : State} {m : MethodId} {args : Array Value} {below : List Frame} {meth : Method} {c : Code} {D : va_G} {cA : Nat → ClassId} {hs : Nat → Nat} {z : gw_Sh} (F : Nat) {r0 : gw_St} (C : gw_Cx p s m args c gb_Whole_settle 3 R_Whole D cA) (hr : meth.sig.returnType = none) (hk : meth.locks = false) {rc_5 : gw_St → Nat → Int32 → Option gw_St} (k_5 : ∀ (u : gw_St) (t0 : Nat) (x2 : Int32) (H : Heap) (locs : List Loc) (ls : Array Slot), gw_ok z t0 8 → gw_Wx D cA hs z s u H locs → lv_has ls 3 [(0, .ref (hs t0)), (2, .int x2)] → rc_5 u t0 x2 = some r0 → gw_Gv p l e gr_Whole_settle s m args below meth c D cA hs z r0 H locs ls 5 []) (u : gw_St) (t0 : Nat) (x2 : Int32) (o_t0 : gw_ok z t0 8) {H : Heap} {locs : List Loc} {ls : Array Slot} (hW : gw_Wx D cA hs z s u H locs) (hl : lv_has ls 3 [(0, .ref (hs t0)), (2, .int x2)]) (h : gf_Whole_settle_S5 F z  rc_5 u t0 x2 = some r0) : gw_Gv p l e gr_Whole_settle s m args below meth c D cA hs z r0 H locs ls 5 [] := by
  obtain ⟨hx, hb, hml, hown, hts, hK⟩ := id C
  unfold gf_Whole_settle_S5 at h
  refine lv_aload_n hx hb gd_Whole_settle_5 rfl (lv_at hl 0 rfl) ?_
  refine gw_geti (k := 1) (ref := R_Whole) C hW o_t0 (by decide) rfl gi_Whole rfl (by decide) rfl rfl gk_14 gd_Whole_settle_6 ?_
  refine lv_if_le (tgt := 39) hx hb gd_Whole_settle_9 (by decide) (fun c4 => ?_) (fun c4 => ?_)
  · have h := gf_t c4 h
    exact gx_Whole_settle_b39 F C hr hk  u t0 x2 o_t0 hW (lv_sub hl [0, 1] rfl) h
  · have h := gf_f c4 h
    refine lv_aload_n hx hb gd_Whole_settle_12 rfl (lv_at hl 0 rfl) ?_
    obtain ⟨q5, e6, h⟩ := gf_nn_ok h
    refine gw_getr (k := 0) (ty := 10) (ref := R_Whole) C hW o_t0 (by decide) rfl gi_Whole rfl (by decide) rfl rfl gk_15 gd_Whole_settle_13 e6 ?_
    have o_q5 := hW.ref (d := 10) o_t0 e6 rfl
    refine lv_aload_n hx hb gd_Whole_settle_16 rfl (lv_at hl 0 rfl) ?_
    refine gw_geti (k := 1) (ref := R_Whole) C hW o_t0 (by decide) rfl gi_Whole rfl (by decide) rfl rfl gk_14 gd_Whole_settle_17 ?_
    refine lv_iconst (v := 1) hx hb gd_Whole_settle_20 (by decide) ?_
    refine lv_isub hx hb gd_Whole_settle_21 ?_
    obtain ⟨g7, h⟩ := gf_if_ok h
    refine gw_iald C hW o_q5 g7 gd_Whole_settle_22 ?_
    refine lv_if_ne (tgt := 39) hx hb gd_Whole_settle_23 (by decide) (fun c8 => ?_) (fun c8 => ?_)
    · have h := gf_f c8 h
      exact gx_Whole_settle_b39 F C hr hk  u t0 x2 o_t0 hW (lv_sub hl [0, 1] rfl) h
    · have h := gf_t c8 h
      refine lv_aload_n hx hb gd_Whole_settle_26 rfl (lv_at hl 0 rfl) ?_
      refine lv_dup hx hb gd_Whole_settle_27 rfl ?_
      refine gw_geti (k := 1) (ref := R_Whole) C hW o_t0 (by decide) rfl gi_Whole rfl (by decide) rfl rfl gk_14 gd_Whole_settle_28 ?_
      refine lv_iconst (v := 1) hx hb gd_Whole_settle_31 (by decide) ?_
      refine lv_isub hx hb gd_Whole_settle_32 ?_
      refine gw_puti (k := 1) (ref := R_Whole) (fty := .int) C hW o_t0 (by decide) rfl gi_Whole rfl (by decide) rfl rfl gk_14 tf_Whole tf_Whole_ok nm_Whole rfl rfl rfl rfl gd_Whole_settle_33 (fun u9 H locs e10 hW => ?_)
      have h := gf_nm_ok e10 h
      refine lv_goto (tgt := 5) hx hb gd_Whole_settle_36 (by decide) ?_
      exact k_5 u9 t0 x2 _ _ _ o_t0 hW (lv_sub hl [0, 1] rfl) h
set_option maxHeartbeats 4000000 in
set_option maxRecDepth 20000 in
theorem gx_Whole_settle_L5 {p : Program} {l : Launch} {e : Env} {s : State} {m : MethodId} {args : Array Value} {below : List Frame} {meth : Method} {c : Code} {D : va_G} {cA : Nat → ClassId} {hs : Nat → Nat} {z : gw_Sh} (F : Nat) {r0 : gw_St} (C : gw_Cx p s m args c gb_Whole_settle 3 R_Whole D cA) (hr : meth.sig.returnType = none) (hk : meth.locks = false) : ∀ (n : Nat), ∀ (u : gw_St) (t0 : Nat) (x2 : Int32) (H : Heap) (locs : List Loc) (ls : Array Slot), gw_ok z t0 8 → gw_Wx D cA hs z s u H locs → lv_has ls 3 [(0, .ref (hs t0)), (2, .int x2)] → gf_Whole_settle_L5 F z  n u t0 x2 = some r0 → gw_Gv p l e gr_Whole_settle s m args below meth c D cA hs z r0 H locs ls 5 [] := by
  intro n
  induction n with
  | zero =>
    intro u t0 x2 H locs ls o_t0 hW hl h
    cases h
  | succ n ih =>
    intro u t0 x2 H locs ls o_t0 hW hl h
    exact gx_Whole_settle_S5 F C hr hk  ih u t0 x2 o_t0 hW hl h

set_option maxHeartbeats 4000000 in
set_option maxRecDepth 20000 in
theorem gx_Whole_settle_b0 {p : Program} {l : Launch} {e : Env} {s : State} {m : MethodId} {args : Array Value} {below : List Frame} {meth : Method} {c : Code} {D : va_G} {cA : Nat → ClassId} {hs : Nat → Nat} {z : gw_Sh} (F : Nat) {r0 : gw_St} (C : gw_Cx p s m args c gb_Whole_settle 3 R_Whole D cA) (hr : meth.sig.returnType = none) (hk : meth.locks = false) (u : gw_St) (t0 : Nat) (x1 : Int32) (x2 : Int32) (o_t0 : gw_ok z t0 8) {H : Heap} {locs : List Loc} {ls : Array Slot} (hW : gw_Wx D cA hs z s u H locs) (hl : lv_has ls 3 [(0, .ref (hs t0)), (1, .int x1), (2, .int x2)]) (h : gf_Whole_settle_b0 F z   u t0 x1 x2 = some r0) : gw_Gv p l e gr_Whole_settle s m args below meth c D cA hs z r0 H locs ls 0 [] := by
  obtain ⟨hx, hb, hml, hown, hts, hK⟩ := id C
  unfold gf_Whole_settle_b0 at h
  refine lv_aload_n hx hb gd_Whole_settle_0 rfl (lv_at hl 0 rfl) ?_
  refine lv_iload_n hx hb gd_Whole_settle_1 rfl (lv_at hl 1 rfl) ?_
  refine gw_puti (k := 1) (ref := R_Whole) (fty := .int) C hW o_t0 (by decide) rfl gi_Whole rfl (by decide) rfl rfl gk_14 tf_Whole tf_Whole_ok nm_Whole rfl rfl rfl rfl gd_Whole_settle_2 (fun u11 H locs e12 hW => ?_)
  have h := gf_nm_ok e12 h
  exact gx_Whole_settle_L5 F C hr hk  F u11 t0 x2 _ _ _ o_t0 hW (lv_sub hl [0, 2] rfl) h

set_option maxRecDepth 20000 in
theorem gc_Whole_settle (l : Launch) {D : va_G} {cA : Nat → ClassId} {hs : Nat → Nat} {z : gw_Sh} (F : Nat) {u : gw_St} {r0 : gw_St} {t0 : Nat} {x1 : Int32} {x2 : Int32} (o_t0 : gw_ok z t0 8) (h : gf_Whole_settle F z u t0 x1 x2 = some r0) (sz : Nat) : gw_Mv l gy_Whole_settle gb_Whole_settle 3 none gr_Whole_settle [.ref (hs t0), .int x1, .int x2] D cA hs z u sz r0 := by
  refine gw_enter (by decide) (Nat.le_of_ble_eq_true rfl) ?_
  intro p e s m below meth c ls hsz C hW hr hk _ hl
  subst hsz
  exact gx_Whole_settle_b0 F C hr hk u t0 x1 x2 o_t0 hW (lv_sub hl [0, 1, 2] rfl) h
-- GearDesk$Whole.setLong(J)V
theorem gk_18 : Cond.methodLink R_Whole 21 gy_Long_signum ∈ gt_T := gt_m2 (List.mem_of_getElem? (i := 64) rfl) rfl
theorem gk_19 : Cond.static gy_Long_signum ∈ gt_T := gt_m2 (List.mem_of_getElem? (i := 65) rfl) rfl
theorem gk_20 : Cond.methodLink R_Whole 27 gy_Whole_settle ∈ gt_T := gt_m2 (List.mem_of_getElem? (i := 67) rfl) rfl
theorem gk_21 : Cond.instanceMethod gy_Whole_settle ∈ gt_T := gt_m2 (List.mem_of_getElem? (i := 68) rfl) rfl
theorem gk_22 : Cond.selects R_Whole gy_Whole_settle gy_Whole_settle ∈ gt_T := gt_m2 (List.mem_of_getElem? (i := 69) rfl) rfl
theorem gk_23 : Cond.constantLong R_Whole 19 2147483647 ∈ gt_T := gt_m2 (List.mem_of_getElem? (i := 63) rfl) rfl
theorem gk_24 : Cond.methodLink R_Whole 13 Lib.MathLoose.abs_long.x ∈ gt_T := gt_m2 (List.mem_of_getElem? (i := 60) rfl) rfl
theorem gk_25 : Cond.static Lib.MathLoose.abs_long.x ∈ gt_T := gt_m2 (List.mem_of_getElem? (i := 61) rfl) rfl
theorem gk_26 : Cond.initialized "java/lang/Math" ∈ gt_T := gt_m1 (List.mem_of_getElem? (i := 9) rfl) rfl
theorem gk_27 : Cond.code Lib.MathLoose.abs_long.x Lib.MathLoose.abs_long.code 2 (some .long) ∈ gt_T := gt_m2 (List.mem_of_getElem? (i := 62) rfl) rfl
def gy_Whole_setLong : MethodName := ⟨R_Whole, "setLong", "(J)V"⟩
abbrev gb_Whole_setLong : ByteArray := prog_8_method_2_code
theorem gk_28 : Cond.code gy_Whole_setLong gb_Whole_setLong 6 none ∈ gt_T := gt_m2 (List.mem_of_getElem? (i := 59) rfl) rfl
def gr_Whole_setLong : Room := gw_rm 2 86
theorem gm_Whole_setLong : gw_Mth gy_Whole_setLong gb_Whole_setLong 6 none 1 := ⟨gk_28, gk_16, ⟨by decide +kernel, by decide +kernel⟩, by decide +kernel⟩
theorem gd_Whole_setLong_0 : decode gb_Whole_setLong 0 = .ok (.lload_n 1, 1) := by decide +kernel
theorem gd_Whole_setLong_1 : decode gb_Whole_setLong 1 = .ok (.invokestatic 13, 3) := by decide +kernel
theorem gd_Whole_setLong_4 : decode gb_Whole_setLong 4 = .ok (.lstore_n 3, 1) := by decide +kernel
theorem gd_Whole_setLong_5 : decode gb_Whole_setLong 5 = .ok (.iconst 0, 1) := by decide +kernel
theorem gd_Whole_setLong_6 : decode gb_Whole_setLong 6 = .ok (.istore 5, 2) := by decide +kernel
theorem gd_Whole_setLong_8 : decode gb_Whole_setLong 8 = .ok (.iload 5, 2) := by decide +kernel
theorem gd_Whole_setLong_10 : decode gb_Whole_setLong 10 = .ok (.iconst 3, 1) := by decide +kernel
theorem gd_Whole_setLong_11 : decode gb_Whole_setLong 11 = .ok (.if_icmp .ge 27, 3) := by decide +kernel
theorem gd_Whole_setLong_14 : decode gb_Whole_setLong 14 = .ok (.aload_n 0, 1) := by decide +kernel
theorem gd_Whole_setLong_15 : decode gb_Whole_setLong 15 = .ok (.getfield 9, 3) := by decide +kernel
theorem gd_Whole_setLong_18 : decode gb_Whole_setLong 18 = .ok (.iload 5, 2) := by decide +kernel
theorem gd_Whole_setLong_20 : decode gb_Whole_setLong 20 = .ok (.lload_n 3, 1) := by decide +kernel
theorem gd_Whole_setLong_21 : decode gb_Whole_setLong 21 = .ok (.ldc2_w 19, 3) := by decide +kernel
theorem gd_Whole_setLong_24 : decode gb_Whole_setLong 24 = .ok (.land, 1) := by decide +kernel
theorem gd_Whole_setLong_25 : decode gb_Whole_setLong 25 = .ok (.l2i, 1) := by decide +kernel
theorem gd_Whole_setLong_26 : decode gb_Whole_setLong 26 = .ok (.iastore, 1) := by decide +kernel
theorem gd_Whole_setLong_27 : decode gb_Whole_setLong 27 = .ok (.lload_n 3, 1) := by decide +kernel
theorem gd_Whole_setLong_28 : decode gb_Whole_setLong 28 = .ok (.bipush 31, 2) := by decide +kernel
theorem gd_Whole_setLong_30 : decode gb_Whole_setLong 30 = .ok (.lushr, 1) := by decide +kernel
theorem gd_Whole_setLong_31 : decode gb_Whole_setLong 31 = .ok (.lstore_n 3, 1) := by decide +kernel
theorem gd_Whole_setLong_32 : decode gb_Whole_setLong 32 = .ok (.iinc 5 1, 3) := by decide +kernel
theorem gd_Whole_setLong_35 : decode gb_Whole_setLong 35 = .ok (.goto (-27), 3) := by decide +kernel
theorem gd_Whole_setLong_38 : decode gb_Whole_setLong 38 = .ok (.aload_n 0, 1) := by decide +kernel
theorem gd_Whole_setLong_39 : decode gb_Whole_setLong 39 = .ok (.iconst 3, 1) := by decide +kernel
theorem gd_Whole_setLong_40 : decode gb_Whole_setLong 40 = .ok (.lload_n 1, 1) := by decide +kernel
theorem gd_Whole_setLong_41 : decode gb_Whole_setLong 41 = .ok (.invokestatic 21, 3) := by decide +kernel
theorem gd_Whole_setLong_44 : decode gb_Whole_setLong 44 = .ok (.invokevirtual 27, 3) := by decide +kernel
theorem gd_Whole_setLong_47 : decode gb_Whole_setLong 47 = .ok (.return_, 1) := by decide +kernel
def gf_Whole_setLong_S8 (F : Nat) (z : gw_Sh)  (rc_8 : gw_St → Nat → Int64 → Int64 → Int32 → Option gw_St) (u : gw_St) (t0 : Nat) (y1 : Int64) (y3 : Int64) (x5 : Int32) : Option gw_St :=
  if (3 : Int32) ≤ x5 then (gf_cl (gf_Long_signum F z u y1) fun a4 u2 => (gf_Whole_settle F z u2 t0 (3 : Int32) a4).bind fun u5 => some u5) else (gf_nn (u.2.2 t0 0) fun q7 => if (x5 < 0 ∨ z.2.2 q7 ≤ (x5).toNatClampNeg) then none else gf_nm (gw_wi u q7 (x5).toNatClampNeg (((y3 &&& (2147483647 : Int64))).toInt32)) fun u10 => gf_nm (((y3).toUInt64 >>> (((31 : Int32)).toInt64.toUInt64 &&& Int64.toUInt64 63)).toInt64) fun a12 => gf_nm (x5 + 1) fun a14 => rc_8 u10 t0 y1 a12 a14)
def gf_Whole_setLong_L8 (F : Nat) (z : gw_Sh)  : Nat → gw_St → Nat → Int64 → Int64 → Int32 → Option gw_St
  | 0 => fun _ _ _ _ _ => none
  | n + 1 => fun u t0 y1 y3 x5 => gf_Whole_setLong_S8 F z  (gf_Whole_setLong_L8 F z  n) u t0 y1 y3 x5
def gf_Whole_setLong_b0 (F : Nat) (z : gw_Sh)  (u : gw_St) (t0 : Nat) (y1 : Int64) : Option gw_St :=
  gf_nm (if 0 < y1 then y1 else -y1) fun a16 => gf_Whole_setLong_L8 F z  F u t0 y1 a16 0
def gf_Whole_setLong (F : Nat) (z : gw_Sh) (u : gw_St) (t0 : Nat) (y1 : Int64) : Option gw_St := gf_Whole_setLong_b0 F z  u t0 y1
set_option maxHeartbeats 4000000 in
set_option maxRecDepth 20000 in
theorem gx_Whole_setLong_S8 {p : Program} {l : Launch} {e : Env} {s : State} {m : MethodId} {args : Array Value} {below : List Frame} {meth : Method} {c : Code} {D : va_G} {cA : Nat → ClassId} {hs : Nat → Nat} {z : gw_Sh} (F : Nat) {r0 : gw_St} (C : gw_Cx p s m args c gb_Whole_setLong 6 R_Whole D cA) (hr : meth.sig.returnType = none) (hk : meth.locks = false) {rc_8 : gw_St → Nat → Int64 → Int64 → Int32 → Option gw_St} (k_8 : ∀ (u : gw_St) (t0 : Nat) (y1 : Int64) (y3 : Int64) (x5 : Int32) (H : Heap) (locs : List Loc) (ls : Array Slot), gw_ok z t0 8 → gw_Wx D cA hs z s u H locs → lv_has ls 6 [(0, .ref (hs t0)), (1, .long y1), (3, .long y3), (5, .int x5)] → rc_8 u t0 y1 y3 x5 = some r0 → gw_Gv p l e gr_Whole_setLong s m args below meth c D cA hs z r0 H locs ls 8 []) (u : gw_St) (t0 : Nat) (y1 : Int64) (y3 : Int64) (x5 : Int32) (o_t0 : gw_ok z t0 8) {H : Heap} {locs : List Loc} {ls : Array Slot} (hW : gw_Wx D cA hs z s u H locs) (hl : lv_has ls 6 [(0, .ref (hs t0)), (1, .long y1), (3, .long y3), (5, .int x5)]) (h : gf_Whole_setLong_S8 F z  rc_8 u t0 y1 y3 x5 = some r0) : gw_Gv p l e gr_Whole_setLong s m args below meth c D cA hs z r0 H locs ls 8 [] := by
  obtain ⟨hx, hb, hml, hown, hts, hK⟩ := id C
  unfold gf_Whole_setLong_S8 at h
  refine lv_iload hx hb gd_Whole_setLong_8 (lv_at hl 3 rfl) ?_
  refine lv_iconst (v := 3) hx hb gd_Whole_setLong_10 (by decide) ?_
  refine lv_icmp_ge (tgt := 38) hx hb gd_Whole_setLong_11 (by decide) (fun c1 => ?_) (fun c1 => ?_)
  · have h := gf_t c1 h
    refine lv_aload_n hx hb gd_Whole_setLong_38 rfl (lv_at hl 0 rfl) ?_
    refine lv_iconst (v := 3) hx hb gd_Whole_setLong_39 (by decide) ?_
    refine lv_lload_n hx hb gd_Whole_setLong_40 rfl (lv_at hl 1 rfl) ?_
    obtain ⟨a4, u2, d3, h⟩ := gf_cl_ok h
    refine gw_callSi (As := [.long y1]) (rest := [.int (3 : Int32), .ref (hs t0)]) C hW (fun _ h => Or.inr h) hl.1 gm_Long_signum (gc_Long_signum l F  d3 _) gk_18 gk_19 rfl rfl ⟨Nat.le_of_ble_eq_true rfl, Nat.le_of_ble_eq_true rfl⟩ ⟨Nat.zero_le _, Nat.zero_le _⟩ rfl rfl (Nat.le_of_ble_eq_true rfl) gd_Whole_setLong_41 (fun H locs hW => ?_)
    obtain ⟨u5, d6, h⟩ := gf_bd_ok h
    refine gw_callVv (K := R_Whole) (As := [.int (3 : Int32), .int a4]) (rest := []) C hW (fun _ h => Or.inr h) hl.1 gm_Whole_settle (gc_Whole_settle l F o_t0 d6 _) gk_20 gk_21 gk_22 o_t0 (by decide) rfl rfl rfl ⟨Nat.le_of_ble_eq_true rfl, Nat.le_of_ble_eq_true rfl⟩ ⟨Nat.zero_le _, Nat.zero_le _⟩ rfl rfl (Nat.le_of_ble_eq_true rfl) gd_Whole_setLong_44 (fun H locs hW => ?_)
    obtain rfl := Option.some.inj h
    exact gw_vret C hW hr hk gd_Whole_setLong_47
  · have h := gf_f c1 h
    refine lv_aload_n hx hb gd_Whole_setLong_14 rfl (lv_at hl 0 rfl) ?_
    obtain ⟨q7, e8, h⟩ := gf_nn_ok h
    refine gw_getr (k := 0) (ty := 10) (ref := R_Whole) C hW o_t0 (by decide) rfl gi_Whole rfl (by decide) rfl rfl gk_15 gd_Whole_setLong_15 e8 ?_
    have o_q7 := hW.ref (d := 10) o_t0 e8 rfl
    refine lv_iload hx hb gd_Whole_setLong_18 (lv_at hl 3 rfl) ?_
    refine lv_lload_n hx hb gd_Whole_setLong_20 rfl (lv_at hl 2 rfl) ?_
    refine lv_ldc2 (v := 2147483647) hx hb hown (hts _ gk_23) gd_Whole_setLong_21 ?_
    refine lv_land hx hb gd_Whole_setLong_24 ?_
    refine lv_l2i hx hb gd_Whole_setLong_25 rfl ?_
    obtain ⟨g9, h⟩ := gf_if_ok h
    refine gw_iast C hW o_q7 g9 gd_Whole_setLong_26 (fun u10 H locs e11 hW => ?_)
    have h := gf_nm_ok e11 h
    refine lv_lload_n hx hb gd_Whole_setLong_27 rfl (lv_at hl 2 rfl) ?_
    refine lv_bipush (v := 31) hx hb gd_Whole_setLong_28 (by decide) ?_
    refine lv_lushr hx hb gd_Whole_setLong_30 rfl ?_
    refine lv_topl (fun a12 e13 => ?_)
    have h := gf_nm_ok e13 h
    refine lv_lstore_n (lv' := [(3, .long a12), (0, .ref (hs t0)), (1, .long y1), (5, .int x5)]) hx hb gd_Whole_setLong_31 rfl hl (by decide) rfl (fun ls hl => ?_)
    obtain ⟨a14, e15⟩ : ∃ y : Int32, y = x5 + 1 := ⟨_, rfl⟩
    have h := gf_nm_ok e15 h
    refine lv_iinc (v := a14) (lv' := [(5, .int a14), (3, .long a12), (0, .ref (hs t0)), (1, .long y1)]) hx hb gd_Whole_setLong_32 hl (k := 3) rfl (by rw [e15]; rfl) (by decide) rfl (fun ls hl => ?_)
    refine lv_goto (tgt := 8) hx hb gd_Whole_setLong_35 (by decide) ?_
    exact k_8 u10 t0 y1 a12 a14 _ _ _ o_t0 hW (lv_sub hl [2, 3, 1, 0] rfl) h
set_option maxHeartbeats 4000000 in
set_option maxRecDepth 20000 in
theorem gx_Whole_setLong_L8 {p : Program} {l : Launch} {e : Env} {s : State} {m : MethodId} {args : Array Value} {below : List Frame} {meth : Method} {c : Code} {D : va_G} {cA : Nat → ClassId} {hs : Nat → Nat} {z : gw_Sh} (F : Nat) {r0 : gw_St} (C : gw_Cx p s m args c gb_Whole_setLong 6 R_Whole D cA) (hr : meth.sig.returnType = none) (hk : meth.locks = false) : ∀ (n : Nat), ∀ (u : gw_St) (t0 : Nat) (y1 : Int64) (y3 : Int64) (x5 : Int32) (H : Heap) (locs : List Loc) (ls : Array Slot), gw_ok z t0 8 → gw_Wx D cA hs z s u H locs → lv_has ls 6 [(0, .ref (hs t0)), (1, .long y1), (3, .long y3), (5, .int x5)] → gf_Whole_setLong_L8 F z  n u t0 y1 y3 x5 = some r0 → gw_Gv p l e gr_Whole_setLong s m args below meth c D cA hs z r0 H locs ls 8 [] := by
  intro n
  induction n with
  | zero =>
    intro u t0 y1 y3 x5 H locs ls o_t0 hW hl h
    cases h
  | succ n ih =>
    intro u t0 y1 y3 x5 H locs ls o_t0 hW hl h
    exact gx_Whole_setLong_S8 F C hr hk  ih u t0 y1 y3 x5 o_t0 hW hl h

set_option maxHeartbeats 4000000 in
set_option maxRecDepth 20000 in
theorem gx_Whole_setLong_b0 {p : Program} {l : Launch} {e : Env} {s : State} {m : MethodId} {args : Array Value} {below : List Frame} {meth : Method} {c : Code} {D : va_G} {cA : Nat → ClassId} {hs : Nat → Nat} {z : gw_Sh} (F : Nat) {r0 : gw_St} (C : gw_Cx p s m args c gb_Whole_setLong 6 R_Whole D cA) (hr : meth.sig.returnType = none) (hk : meth.locks = false) (u : gw_St) (t0 : Nat) (y1 : Int64) (o_t0 : gw_ok z t0 8) {H : Heap} {locs : List Loc} {ls : Array Slot} (hW : gw_Wx D cA hs z s u H locs) (hl : lv_has ls 6 [(0, .ref (hs t0)), (1, .long y1)]) (h : gf_Whole_setLong_b0 F z   u t0 y1 = some r0) : gw_Gv p l e gr_Whole_setLong s m args below meth c D cA hs z r0 H locs ls 0 [] := by
  obtain ⟨hx, hb, hml, hown, hts, hK⟩ := id C
  unfold gf_Whole_setLong_b0 at h
  refine lv_lload_n hx hb gd_Whole_setLong_0 rfl (lv_at hl 1 rfl) ?_
  refine va_mabs_long hx hb (hml.trans hl.1.symm) hown (hts _ gk_24) (hts _ gk_25) (hts _ gk_26) (hts _ gk_27) (Nat.le_of_ble_eq_true rfl) (Nat.le_of_ble_eq_true rfl) (Nat.zero_le _) (Nat.zero_le _) gd_Whole_setLong_1 ?_
  refine lv_topl (fun a16 e17 => ?_)
  have h := gf_nm_ok e17 h
  refine lv_lstore_n (lv' := [(3, .long a16), (0, .ref (hs t0)), (1, .long y1)]) hx hb gd_Whole_setLong_4 rfl hl (by decide) rfl (fun ls hl => ?_)
  refine lv_iconst (v := 0) hx hb gd_Whole_setLong_5 (by decide) ?_
  refine lv_istore (lv' := [(5, .int 0), (3, .long a16), (0, .ref (hs t0)), (1, .long y1)]) hx hb gd_Whole_setLong_6 hl (by decide) rfl (fun ls hl => ?_)
  exact gx_Whole_setLong_L8 F C hr hk  F u t0 y1 a16 0 _ _ _ o_t0 hW (lv_sub hl [2, 3, 1, 0] rfl) h

set_option maxRecDepth 20000 in
theorem gc_Whole_setLong (l : Launch) {D : va_G} {cA : Nat → ClassId} {hs : Nat → Nat} {z : gw_Sh} (F : Nat) {u : gw_St} {r0 : gw_St} {t0 : Nat} {y1 : Int64} (o_t0 : gw_ok z t0 8) (h : gf_Whole_setLong F z u t0 y1 = some r0) (sz : Nat) : gw_Mv l gy_Whole_setLong gb_Whole_setLong 6 none gr_Whole_setLong [.ref (hs t0), .long y1] D cA hs z u sz r0 := by
  refine gw_enter (by decide) (Nat.le_of_ble_eq_true rfl) ?_
  intro p e s m below meth c ls hsz C hW hr hk _ hl
  subst hsz
  exact gx_Whole_setLong_b0 F C hr hk u t0 y1 o_t0 hW (lv_sub hl [0, 1] rfl) h
-- GearDesk$Whole.copyFrom(LGearDesk$Whole;)V
theorem gk_29 : Cond.methodLink R_Whole 35 arraycopyName ∈ gt_T := gt_m5 (List.mem_of_getElem? (i := 113) rfl) rfl
theorem gk_30 : Cond.native arraycopyName ∈ gt_T := gt_m3 (List.mem_of_getElem? (i := 122) rfl) rfl
theorem gk_31 : Cond.static arraycopyName ∈ gt_T := gt_m3 (List.mem_of_getElem? (i := 121) rfl) rfl
theorem gk_32 : Cond.initialized "java/lang/System" ∈ gt_T := gt_m1 (List.mem_of_getElem? (i := 24) rfl) rfl
def gy_Whole_copyFrom : MethodName := ⟨R_Whole, "copyFrom", "(LGearDesk$Whole;)V"⟩
abbrev gb_Whole_copyFrom : ByteArray := prog_8_method_3_code
theorem gk_33 : Cond.code gy_Whole_copyFrom gb_Whole_copyFrom 2 none ∈ gt_T := gt_m5 (List.mem_of_getElem? (i := 112) rfl) rfl
def gr_Whole_copyFrom : Room := gw_rm 1 64
theorem gm_Whole_copyFrom : gw_Mth gy_Whole_copyFrom gb_Whole_copyFrom 2 none 1 := ⟨gk_33, gk_16, ⟨by decide +kernel, by decide +kernel⟩, by decide +kernel⟩
theorem gd_Whole_copyFrom_0 : decode gb_Whole_copyFrom 0 = .ok (.aload_n 1, 1) := by decide +kernel
theorem gd_Whole_copyFrom_1 : decode gb_Whole_copyFrom 1 = .ok (.getfield 9, 3) := by decide +kernel
theorem gd_Whole_copyFrom_4 : decode gb_Whole_copyFrom 4 = .ok (.iconst 0, 1) := by decide +kernel
theorem gd_Whole_copyFrom_5 : decode gb_Whole_copyFrom 5 = .ok (.aload_n 0, 1) := by decide +kernel
theorem gd_Whole_copyFrom_6 : decode gb_Whole_copyFrom 6 = .ok (.getfield 9, 3) := by decide +kernel
theorem gd_Whole_copyFrom_9 : decode gb_Whole_copyFrom 9 = .ok (.iconst 0, 1) := by decide +kernel
theorem gd_Whole_copyFrom_10 : decode gb_Whole_copyFrom 10 = .ok (.aload_n 1, 1) := by decide +kernel
theorem gd_Whole_copyFrom_11 : decode gb_Whole_copyFrom 11 = .ok (.getfield 31, 3) := by decide +kernel
theorem gd_Whole_copyFrom_14 : decode gb_Whole_copyFrom 14 = .ok (.invokestatic 35, 3) := by decide +kernel
theorem gd_Whole_copyFrom_17 : decode gb_Whole_copyFrom 17 = .ok (.aload_n 0, 1) := by decide +kernel
theorem gd_Whole_copyFrom_18 : decode gb_Whole_copyFrom 18 = .ok (.aload_n 1, 1) := by decide +kernel
theorem gd_Whole_copyFrom_19 : decode gb_Whole_copyFrom 19 = .ok (.getfield 31, 3) := by decide +kernel
theorem gd_Whole_copyFrom_22 : decode gb_Whole_copyFrom 22 = .ok (.putfield 31, 3) := by decide +kernel
theorem gd_Whole_copyFrom_25 : decode gb_Whole_copyFrom 25 = .ok (.aload_n 0, 1) := by decide +kernel
theorem gd_Whole_copyFrom_26 : decode gb_Whole_copyFrom 26 = .ok (.aload_n 1, 1) := by decide +kernel
theorem gd_Whole_copyFrom_27 : decode gb_Whole_copyFrom 27 = .ok (.getfield 41, 3) := by decide +kernel
theorem gd_Whole_copyFrom_30 : decode gb_Whole_copyFrom 30 = .ok (.putfield 41, 3) := by decide +kernel
theorem gd_Whole_copyFrom_33 : decode gb_Whole_copyFrom 33 = .ok (.return_, 1) := by decide +kernel
def gf_Whole_copyFrom_b0 (F : Nat) (z : gw_Sh)  (u : gw_St) (t0 : Nat) (t1 : Nat) : Option gw_St :=
  gf_nn (u.2.2 t1 0) fun q1 => gf_nn (u.2.2 t0 0) fun q3 => if ((0 : Int32) < 0 ∨ (0 : Int32) < 0 ∨ (u.1 t1 1) < 0 ∨ z.2.2 q1 < ((0 : Int32)).toNatClampNeg + ((u.1 t1 1)).toNatClampNeg ∨ z.2.2 q3 < ((0 : Int32)).toNatClampNeg + ((u.1 t1 1)).toNatClampNeg) then none else gf_nm (gw_cp u q1 ((0 : Int32)).toNatClampNeg q3 ((0 : Int32)).toNatClampNeg ((u.1 t1 1)).toNatClampNeg) fun u6 => gf_nm (gw_wi u6 t0 1 (u6.1 t1 1)) fun u8 => gf_nm (gw_wi u8 t0 2 (u8.1 t1 2)) fun u10 => some u10
def gf_Whole_copyFrom (F : Nat) (z : gw_Sh) (u : gw_St) (t0 : Nat) (t1 : Nat) : Option gw_St := gf_Whole_copyFrom_b0 F z  u t0 t1
set_option maxHeartbeats 4000000 in
set_option maxRecDepth 20000 in
theorem gx_Whole_copyFrom_b0 {p : Program} {l : Launch} {e : Env} {s : State} {m : MethodId} {args : Array Value} {below : List Frame} {meth : Method} {c : Code} {D : va_G} {cA : Nat → ClassId} {hs : Nat → Nat} {z : gw_Sh} (F : Nat) {r0 : gw_St} (C : gw_Cx p s m args c gb_Whole_copyFrom 2 R_Whole D cA) (hr : meth.sig.returnType = none) (hk : meth.locks = false) (u : gw_St) (t0 : Nat) (t1 : Nat) (o_t0 : gw_ok z t0 8) (o_t1 : gw_ok z t1 8) {H : Heap} {locs : List Loc} {ls : Array Slot} (hW : gw_Wx D cA hs z s u H locs) (hl : lv_has ls 2 [(0, .ref (hs t0)), (1, .ref (hs t1))]) (h : gf_Whole_copyFrom_b0 F z   u t0 t1 = some r0) : gw_Gv p l e gr_Whole_copyFrom s m args below meth c D cA hs z r0 H locs ls 0 [] := by
  obtain ⟨hx, hb, hml, hown, hts, hK⟩ := id C
  unfold gf_Whole_copyFrom_b0 at h
  refine lv_aload_n hx hb gd_Whole_copyFrom_0 rfl (lv_at hl 1 rfl) ?_
  obtain ⟨q1, e2, h⟩ := gf_nn_ok h
  refine gw_getr (k := 0) (ty := 10) (ref := R_Whole) C hW o_t1 (by decide) rfl gi_Whole rfl (by decide) rfl rfl gk_15 gd_Whole_copyFrom_1 e2 ?_
  have o_q1 := hW.ref (d := 10) o_t1 e2 rfl
  refine lv_iconst (v := 0) hx hb gd_Whole_copyFrom_4 (by decide) ?_
  refine lv_aload_n hx hb gd_Whole_copyFrom_5 rfl (lv_at hl 0 rfl) ?_
  obtain ⟨q3, e4, h⟩ := gf_nn_ok h
  refine gw_getr (k := 0) (ty := 10) (ref := R_Whole) C hW o_t0 (by decide) rfl gi_Whole rfl (by decide) rfl rfl gk_15 gd_Whole_copyFrom_6 e4 ?_
  have o_q3 := hW.ref (d := 10) o_t0 e4 rfl
  refine lv_iconst (v := 0) hx hb gd_Whole_copyFrom_9 (by decide) ?_
  refine lv_aload_n hx hb gd_Whole_copyFrom_10 rfl (lv_at hl 1 rfl) ?_
  refine gw_geti (k := 1) (ref := R_Whole) C hW o_t1 (by decide) rfl gi_Whole rfl (by decide) rfl rfl gk_14 gd_Whole_copyFrom_11 ?_
  obtain ⟨g5, h⟩ := gf_if_ok h
  refine gw_copy C hW hl.1 gk_29 gk_30 gk_31 gk_32 o_q1 o_q3 g5 (Nat.le_of_ble_eq_true rfl) (Nat.le_of_ble_eq_true rfl) gd_Whole_copyFrom_14 (fun u6 H locs e7 hW => ?_)
  have h := gf_nm_ok e7 h
  refine lv_aload_n hx hb gd_Whole_copyFrom_17 rfl (lv_at hl 0 rfl) ?_
  refine lv_aload_n hx hb gd_Whole_copyFrom_18 rfl (lv_at hl 1 rfl) ?_
  refine gw_geti (k := 1) (ref := R_Whole) C hW o_t1 (by decide) rfl gi_Whole rfl (by decide) rfl rfl gk_14 gd_Whole_copyFrom_19 ?_
  refine gw_puti (k := 1) (ref := R_Whole) (fty := .int) C hW o_t0 (by decide) rfl gi_Whole rfl (by decide) rfl rfl gk_14 tf_Whole tf_Whole_ok nm_Whole rfl rfl rfl rfl gd_Whole_copyFrom_22 (fun u8 H locs e9 hW => ?_)
  have h := gf_nm_ok e9 h
  refine lv_aload_n hx hb gd_Whole_copyFrom_25 rfl (lv_at hl 0 rfl) ?_
  refine lv_aload_n hx hb gd_Whole_copyFrom_26 rfl (lv_at hl 1 rfl) ?_
  refine gw_geti (k := 2) (ref := R_Whole) C hW o_t1 (by decide) rfl gi_Whole rfl (by decide) rfl rfl gk_13 gd_Whole_copyFrom_27 ?_
  refine gw_puti (k := 2) (ref := R_Whole) (fty := .int) C hW o_t0 (by decide) rfl gi_Whole rfl (by decide) rfl rfl gk_13 tf_Whole tf_Whole_ok nm_Whole rfl rfl rfl rfl gd_Whole_copyFrom_30 (fun u10 H locs e11 hW => ?_)
  have h := gf_nm_ok e11 h
  obtain rfl := Option.some.inj h
  exact gw_vret C hW hr hk gd_Whole_copyFrom_33

set_option maxRecDepth 20000 in
theorem gc_Whole_copyFrom (l : Launch) {D : va_G} {cA : Nat → ClassId} {hs : Nat → Nat} {z : gw_Sh} (F : Nat) {u : gw_St} {r0 : gw_St} {t0 : Nat} {t1 : Nat} (o_t0 : gw_ok z t0 8) (o_t1 : gw_ok z t1 8) (h : gf_Whole_copyFrom F z u t0 t1 = some r0) (sz : Nat) : gw_Mv l gy_Whole_copyFrom gb_Whole_copyFrom 2 none gr_Whole_copyFrom [.ref (hs t0), .ref (hs t1)] D cA hs z u sz r0 := by
  refine gw_enter (by decide) (Nat.le_of_ble_eq_true rfl) ?_
  intro p e s m below meth c ls hsz C hW hr hk _ hl
  subst hsz
  exact gx_Whole_copyFrom_b0 F C hr hk u t0 t1 o_t0 o_t1 hW (lv_sub hl [0, 1] rfl) h
-- GearDesk$Whole.bits()I
theorem gk_34 : Cond.methodLink R_Whole 44 gy_Integer_numberOfLeadingZeros ∈ gt_T := gt_m5 (List.mem_of_getElem? (i := 172) rfl) rfl
theorem gk_35 : Cond.static gy_Integer_numberOfLeadingZeros ∈ gt_T := gt_m5 (List.mem_of_getElem? (i := 115) rfl) rfl
def gy_Whole_bits : MethodName := ⟨R_Whole, "bits", "()I"⟩
abbrev gb_Whole_bits : ByteArray := prog_8_method_4_code
theorem gk_36 : Cond.code gy_Whole_bits gb_Whole_bits 1 (some .int) ∈ gt_T := gt_m5 (List.mem_of_getElem? (i := 171) rfl) rfl
def gr_Whole_bits : Room := gw_rm 2 85
theorem gm_Whole_bits : gw_Mth gy_Whole_bits gb_Whole_bits 1 (some .int) 0 := ⟨gk_36, gk_16, ⟨by decide +kernel, by decide +kernel⟩, by decide +kernel⟩
theorem gd_Whole_bits_0 : decode gb_Whole_bits 0 = .ok (.aload_n 0, 1) := by decide +kernel
theorem gd_Whole_bits_1 : decode gb_Whole_bits 1 = .ok (.getfield 31, 3) := by decide +kernel
theorem gd_Whole_bits_4 : decode gb_Whole_bits 4 = .ok (.ifCond .ne 7, 3) := by decide +kernel
theorem gd_Whole_bits_7 : decode gb_Whole_bits 7 = .ok (.iconst 0, 1) := by decide +kernel
theorem gd_Whole_bits_8 : decode gb_Whole_bits 8 = .ok (.goto 27, 3) := by decide +kernel
theorem gd_Whole_bits_11 : decode gb_Whole_bits 11 = .ok (.aload_n 0, 1) := by decide +kernel
theorem gd_Whole_bits_12 : decode gb_Whole_bits 12 = .ok (.getfield 31, 3) := by decide +kernel
theorem gd_Whole_bits_15 : decode gb_Whole_bits 15 = .ok (.bipush 31, 2) := by decide +kernel
theorem gd_Whole_bits_17 : decode gb_Whole_bits 17 = .ok (.imul, 1) := by decide +kernel
theorem gd_Whole_bits_18 : decode gb_Whole_bits 18 = .ok (.iconst 1, 1) := by decide +kernel
theorem gd_Whole_bits_19 : decode gb_Whole_bits 19 = .ok (.iadd, 1) := by decide +kernel
theorem gd_Whole_bits_20 : decode gb_Whole_bits 20 = .ok (.aload_n 0, 1) := by decide +kernel
theorem gd_Whole_bits_21 : decode gb_Whole_bits 21 = .ok (.getfield 9, 3) := by decide +kernel
theorem gd_Whole_bits_24 : decode gb_Whole_bits 24 = .ok (.aload_n 0, 1) := by decide +kernel
theorem gd_Whole_bits_25 : decode gb_Whole_bits 25 = .ok (.getfield 31, 3) := by decide +kernel
theorem gd_Whole_bits_28 : decode gb_Whole_bits 28 = .ok (.iconst 1, 1) := by decide +kernel
theorem gd_Whole_bits_29 : decode gb_Whole_bits 29 = .ok (.isub, 1) := by decide +kernel
theorem gd_Whole_bits_30 : decode gb_Whole_bits 30 = .ok (.iaload, 1) := by decide +kernel
theorem gd_Whole_bits_31 : decode gb_Whole_bits 31 = .ok (.invokestatic 44, 3) := by decide +kernel
theorem gd_Whole_bits_34 : decode gb_Whole_bits 34 = .ok (.isub, 1) := by decide +kernel
theorem gd_Whole_bits_35 : decode gb_Whole_bits 35 = .ok (.ireturn, 1) := by decide +kernel
def gf_Whole_bits_b35 (F : Nat) (z : gw_Sh)  (u : gw_St) (sx0 : Int32) : Option (Int32 × gw_St) :=
  some (sx0, u)
def gf_Whole_bits_b0 (F : Nat) (z : gw_Sh)  (u : gw_St) (t0 : Nat) : Option (Int32 × gw_St) :=
  if (u.1 t0 1) = 0 then (gf_Whole_bits_b35 F z  u 0) else (gf_nn (u.2.2 t0 0) fun q2 => if (((u.1 t0 1) - (1 : Int32)) < 0 ∨ z.2.2 q2 ≤ (((u.1 t0 1) - (1 : Int32))).toNatClampNeg) then none else gf_cl (gf_Integer_numberOfLeadingZeros F z u (u.1 q2 (((u.1 t0 1) - (1 : Int32))).toNatClampNeg)) fun a7 u5 => gf_Whole_bits_b35 F z  u5 ((((u.1 t0 1) * (31 : Int32)) + (1 : Int32)) - a7))
def gf_Whole_bits (F : Nat) (z : gw_Sh) (u : gw_St) (t0 : Nat) : Option (Int32 × gw_St) := gf_Whole_bits_b0 F z  u t0
set_option maxHeartbeats 4000000 in
set_option maxRecDepth 20000 in
theorem gx_Whole_bits_b35 {p : Program} {l : Launch} {e : Env} {s : State} {m : MethodId} {args : Array Value} {below : List Frame} {meth : Method} {c : Code} {D : va_G} {cA : Nat → ClassId} {hs : Nat → Nat} {z : gw_Sh} (F : Nat) {r0 : (Int32 × gw_St)} (C : gw_Cx p s m args c gb_Whole_bits 1 R_Whole D cA) (hr : meth.sig.returnType = (some .int)) (hk : meth.locks = false) (u : gw_St) (sx0 : Int32)  {H : Heap} {locs : List Loc} {ls : Array Slot} (hW : gw_Wx D cA hs z s u H locs) (hl : lv_has ls 1 []) (h : gf_Whole_bits_b35 F z   u sx0 = some r0) : gw_Gi p l e gr_Whole_bits s m args below meth c D cA hs z r0 H locs ls 35 [.int sx0] := by
  obtain ⟨hx, hb, hml, hown, hts, hK⟩ := id C
  unfold gf_Whole_bits_b35 at h
  obtain rfl := Option.some.inj h
  exact gw_iret C hW hr hk gd_Whole_bits_35

set_option maxHeartbeats 4000000 in
set_option maxRecDepth 20000 in
theorem gx_Whole_bits_b0 {p : Program} {l : Launch} {e : Env} {s : State} {m : MethodId} {args : Array Value} {below : List Frame} {meth : Method} {c : Code} {D : va_G} {cA : Nat → ClassId} {hs : Nat → Nat} {z : gw_Sh} (F : Nat) {r0 : (Int32 × gw_St)} (C : gw_Cx p s m args c gb_Whole_bits 1 R_Whole D cA) (hr : meth.sig.returnType = (some .int)) (hk : meth.locks = false) (u : gw_St) (t0 : Nat) (o_t0 : gw_ok z t0 8) {H : Heap} {locs : List Loc} {ls : Array Slot} (hW : gw_Wx D cA hs z s u H locs) (hl : lv_has ls 1 [(0, .ref (hs t0))]) (h : gf_Whole_bits_b0 F z   u t0 = some r0) : gw_Gi p l e gr_Whole_bits s m args below meth c D cA hs z r0 H locs ls 0 [] := by
  obtain ⟨hx, hb, hml, hown, hts, hK⟩ := id C
  unfold gf_Whole_bits_b0 at h
  refine lv_aload_n hx hb gd_Whole_bits_0 rfl (lv_at hl 0 rfl) ?_
  refine gw_geti (k := 1) (ref := R_Whole) C hW o_t0 (by decide) rfl gi_Whole rfl (by decide) rfl rfl gk_14 gd_Whole_bits_1 ?_
  refine lv_if_ne (tgt := 11) hx hb gd_Whole_bits_4 (by decide) (fun c1 => ?_) (fun c1 => ?_)
  · have h := gf_f c1 h
    refine lv_aload_n hx hb gd_Whole_bits_11 rfl (lv_at hl 0 rfl) ?_
    refine gw_geti (k := 1) (ref := R_Whole) C hW o_t0 (by decide) rfl gi_Whole rfl (by decide) rfl rfl gk_14 gd_Whole_bits_12 ?_
    refine lv_bipush (v := 31) hx hb gd_Whole_bits_15 (by decide) ?_
    refine lv_imul hx hb gd_Whole_bits_17 ?_
    refine lv_iconst (v := 1) hx hb gd_Whole_bits_18 (by decide) ?_
    refine lv_iadd hx hb gd_Whole_bits_19 ?_
    refine lv_aload_n hx hb gd_Whole_bits_20 rfl (lv_at hl 0 rfl) ?_
    obtain ⟨q2, e3, h⟩ := gf_nn_ok h
    refine gw_getr (k := 0) (ty := 10) (ref := R_Whole) C hW o_t0 (by decide) rfl gi_Whole rfl (by decide) rfl rfl gk_15 gd_Whole_bits_21 e3 ?_
    have o_q2 := hW.ref (d := 10) o_t0 e3 rfl
    refine lv_aload_n hx hb gd_Whole_bits_24 rfl (lv_at hl 0 rfl) ?_
    refine gw_geti (k := 1) (ref := R_Whole) C hW o_t0 (by decide) rfl gi_Whole rfl (by decide) rfl rfl gk_14 gd_Whole_bits_25 ?_
    refine lv_iconst (v := 1) hx hb gd_Whole_bits_28 (by decide) ?_
    refine lv_isub hx hb gd_Whole_bits_29 ?_
    obtain ⟨g4, h⟩ := gf_if_ok h
    refine gw_iald C hW o_q2 g4 gd_Whole_bits_30 ?_
    obtain ⟨a7, u5, d6, h⟩ := gf_cl_ok h
    refine gw_callSi (As := [.int (u.1 q2 (((u.1 t0 1) - (1 : Int32))).toNatClampNeg)]) (rest := [.int (((u.1 t0 1) * (31 : Int32)) + (1 : Int32))]) C hW (fun _ h => Or.inr h) hl.1 gm_Integer_numberOfLeadingZeros (gc_Integer_numberOfLeadingZeros l F  d6 _) gk_34 gk_35 rfl rfl ⟨Nat.le_of_ble_eq_true rfl, Nat.le_of_ble_eq_true rfl⟩ ⟨Nat.zero_le _, Nat.zero_le _⟩ rfl rfl (Nat.le_of_ble_eq_true rfl) gd_Whole_bits_31 (fun H locs hW => ?_)
    refine lv_isub hx hb gd_Whole_bits_34 ?_
    exact gx_Whole_bits_b35 F C hr hk  u5 ((((u.1 t0 1) * (31 : Int32)) + (1 : Int32)) - a7)  hW (lv_sub hl [] rfl) h
  · have h := gf_t c1 h
    refine lv_iconst (v := 0) hx hb gd_Whole_bits_7 (by decide) ?_
    refine lv_goto (tgt := 35) hx hb gd_Whole_bits_8 (by decide) ?_
    exact gx_Whole_bits_b35 F C hr hk  u 0  hW (lv_sub hl [] rfl) h

set_option maxRecDepth 20000 in
theorem gc_Whole_bits (l : Launch) {D : va_G} {cA : Nat → ClassId} {hs : Nat → Nat} {z : gw_Sh} (F : Nat) {u : gw_St} {r0 : (Int32 × gw_St)} {t0 : Nat} (o_t0 : gw_ok z t0 8) (h : gf_Whole_bits F z u t0 = some r0) (sz : Nat) : gw_Mi l gy_Whole_bits gb_Whole_bits 1 (some .int) gr_Whole_bits [.ref (hs t0)] D cA hs z u sz r0 := by
  refine gw_enter (by decide) (Nat.le_of_ble_eq_true rfl) ?_
  intro p e s m below meth c ls hsz C hW hr hk _ hl
  subst hsz
  exact gx_Whole_bits_b0 F C hr hk u t0 o_t0 hW (lv_sub hl [0] rfl) h
-- GearDesk$Whole.word(I)I
def gy_Whole_word : MethodName := ⟨R_Whole, "word", "(I)I"⟩
abbrev gb_Whole_word : ByteArray := prog_8_method_5_code
theorem gk_37 : Cond.code gy_Whole_word gb_Whole_word 7 (some .int) ∈ gt_T := gt_m5 (List.mem_of_getElem? (i := 203) rfl) rfl
def gr_Whole_word : Room := gw_rm 1 64
theorem gm_Whole_word : gw_Mth gy_Whole_word gb_Whole_word 7 (some .int) 1 := ⟨gk_37, gk_16, ⟨by decide +kernel, by decide +kernel⟩, by decide +kernel⟩
theorem gd_Whole_word_0 : decode gb_Whole_word 0 = .ok (.iload_n 1, 1) := by decide +kernel
theorem gd_Whole_word_1 : decode gb_Whole_word 1 = .ok (.bipush 32, 2) := by decide +kernel
theorem gd_Whole_word_3 : decode gb_Whole_word 3 = .ok (.imul, 1) := by decide +kernel
theorem gd_Whole_word_4 : decode gb_Whole_word 4 = .ok (.bipush 31, 2) := by decide +kernel
theorem gd_Whole_word_6 : decode gb_Whole_word 6 = .ok (.idiv, 1) := by decide +kernel
theorem gd_Whole_word_7 : decode gb_Whole_word 7 = .ok (.istore_n 2, 1) := by decide +kernel
theorem gd_Whole_word_8 : decode gb_Whole_word 8 = .ok (.iload_n 2, 1) := by decide +kernel
theorem gd_Whole_word_9 : decode gb_Whole_word 9 = .ok (.aload_n 0, 1) := by decide +kernel
theorem gd_Whole_word_10 : decode gb_Whole_word 10 = .ok (.getfield 31, 3) := by decide +kernel
theorem gd_Whole_word_13 : decode gb_Whole_word 13 = .ok (.if_icmp .ge 13, 3) := by decide +kernel
theorem gd_Whole_word_16 : decode gb_Whole_word 16 = .ok (.aload_n 0, 1) := by decide +kernel
theorem gd_Whole_word_17 : decode gb_Whole_word 17 = .ok (.getfield 9, 3) := by decide +kernel
theorem gd_Whole_word_20 : decode gb_Whole_word 20 = .ok (.iload_n 2, 1) := by decide +kernel
theorem gd_Whole_word_21 : decode gb_Whole_word 21 = .ok (.iaload, 1) := by decide +kernel
theorem gd_Whole_word_22 : decode gb_Whole_word 22 = .ok (.i2l, 1) := by decide +kernel
theorem gd_Whole_word_23 : decode gb_Whole_word 23 = .ok (.goto 4, 3) := by decide +kernel
theorem gd_Whole_word_26 : decode gb_Whole_word 26 = .ok (.lconst 0, 1) := by decide +kernel
theorem gd_Whole_word_27 : decode gb_Whole_word 27 = .ok (.lstore_n 3, 1) := by decide +kernel
theorem gd_Whole_word_28 : decode gb_Whole_word 28 = .ok (.iload_n 2, 1) := by decide +kernel
theorem gd_Whole_word_29 : decode gb_Whole_word 29 = .ok (.iconst 1, 1) := by decide +kernel
theorem gd_Whole_word_30 : decode gb_Whole_word 30 = .ok (.iadd, 1) := by decide +kernel
theorem gd_Whole_word_31 : decode gb_Whole_word 31 = .ok (.aload_n 0, 1) := by decide +kernel
theorem gd_Whole_word_32 : decode gb_Whole_word 32 = .ok (.getfield 31, 3) := by decide +kernel
theorem gd_Whole_word_35 : decode gb_Whole_word 35 = .ok (.if_icmp .ge 15, 3) := by decide +kernel
theorem gd_Whole_word_38 : decode gb_Whole_word 38 = .ok (.aload_n 0, 1) := by decide +kernel
theorem gd_Whole_word_39 : decode gb_Whole_word 39 = .ok (.getfield 9, 3) := by decide +kernel
theorem gd_Whole_word_42 : decode gb_Whole_word 42 = .ok (.iload_n 2, 1) := by decide +kernel
theorem gd_Whole_word_43 : decode gb_Whole_word 43 = .ok (.iconst 1, 1) := by decide +kernel
theorem gd_Whole_word_44 : decode gb_Whole_word 44 = .ok (.iadd, 1) := by decide +kernel
theorem gd_Whole_word_45 : decode gb_Whole_word 45 = .ok (.iaload, 1) := by decide +kernel
theorem gd_Whole_word_46 : decode gb_Whole_word 46 = .ok (.i2l, 1) := by decide +kernel
theorem gd_Whole_word_47 : decode gb_Whole_word 47 = .ok (.goto 4, 3) := by decide +kernel
theorem gd_Whole_word_50 : decode gb_Whole_word 50 = .ok (.lconst 0, 1) := by decide +kernel
theorem gd_Whole_word_51 : decode gb_Whole_word 51 = .ok (.lstore 5, 2) := by decide +kernel
theorem gd_Whole_word_53 : decode gb_Whole_word 53 = .ok (.lload 5, 2) := by decide +kernel
theorem gd_Whole_word_55 : decode gb_Whole_word 55 = .ok (.bipush 31, 2) := by decide +kernel
theorem gd_Whole_word_57 : decode gb_Whole_word 57 = .ok (.lshl, 1) := by decide +kernel
theorem gd_Whole_word_58 : decode gb_Whole_word 58 = .ok (.lload_n 3, 1) := by decide +kernel
theorem gd_Whole_word_59 : decode gb_Whole_word 59 = .ok (.lor, 1) := by decide +kernel
theorem gd_Whole_word_60 : decode gb_Whole_word 60 = .ok (.iload_n 1, 1) := by decide +kernel
theorem gd_Whole_word_61 : decode gb_Whole_word 61 = .ok (.bipush 32, 2) := by decide +kernel
theorem gd_Whole_word_63 : decode gb_Whole_word 63 = .ok (.imul, 1) := by decide +kernel
theorem gd_Whole_word_64 : decode gb_Whole_word 64 = .ok (.bipush 31, 2) := by decide +kernel
theorem gd_Whole_word_66 : decode gb_Whole_word 66 = .ok (.irem, 1) := by decide +kernel
theorem gd_Whole_word_67 : decode gb_Whole_word 67 = .ok (.lshr, 1) := by decide +kernel
theorem gd_Whole_word_68 : decode gb_Whole_word 68 = .ok (.l2i, 1) := by decide +kernel
theorem gd_Whole_word_69 : decode gb_Whole_word 69 = .ok (.ireturn, 1) := by decide +kernel
def gf_Whole_word_b51 (F : Nat) (z : gw_Sh)  (u : gw_St) (x1 : Int32) (y3 : Int64) (sy0 : Int64) : Option (Int32 × gw_St) :=
  if (31 : Int32) = 0 then none else some ((((((sy0 <<< (((31 : Int32)).toInt64 &&& 63)) ||| y3) >>> ((((x1 * (32 : Int32)) - (x1 * (32 : Int32)) / (31 : Int32) * (31 : Int32))).toInt64 &&& 63))).toInt32), u)
def gf_Whole_word_b27 (F : Nat) (z : gw_Sh)  (u : gw_St) (t0 : Nat) (x1 : Int32) (x2 : Int32) (sy0 : Int64) : Option (Int32 × gw_St) :=
  if (u.1 t0 1) ≤ (x2 + (1 : Int32)) then (gf_Whole_word_b51 F z  u x1 sy0 0) else (gf_nn (u.2.2 t0 0) fun q3 => if ((x2 + (1 : Int32)) < 0 ∨ z.2.2 q3 ≤ ((x2 + (1 : Int32))).toNatClampNeg) then none else gf_Whole_word_b51 F z  u x1 sy0 (((u.1 q3 ((x2 + (1 : Int32))).toNatClampNeg)).toInt64))
def gf_Whole_word_b0 (F : Nat) (z : gw_Sh)  (u : gw_St) (t0 : Nat) (x1 : Int32) : Option (Int32 × gw_St) :=
  if (31 : Int32) = 0 then none else gf_nm ((x1 * (32 : Int32)) / (31 : Int32)) fun a7 => if (u.1 t0 1) ≤ a7 then (gf_Whole_word_b27 F z  u t0 x1 a7 0) else (gf_nn (u.2.2 t0 0) fun q10 => if (a7 < 0 ∨ z.2.2 q10 ≤ (a7).toNatClampNeg) then none else gf_Whole_word_b27 F z  u t0 x1 a7 (((u.1 q10 (a7).toNatClampNeg)).toInt64))
def gf_Whole_word (F : Nat) (z : gw_Sh) (u : gw_St) (t0 : Nat) (x1 : Int32) : Option (Int32 × gw_St) := gf_Whole_word_b0 F z  u t0 x1
set_option maxHeartbeats 4000000 in
set_option maxRecDepth 20000 in
theorem gx_Whole_word_b51 {p : Program} {l : Launch} {e : Env} {s : State} {m : MethodId} {args : Array Value} {below : List Frame} {meth : Method} {c : Code} {D : va_G} {cA : Nat → ClassId} {hs : Nat → Nat} {z : gw_Sh} (F : Nat) {r0 : (Int32 × gw_St)} (C : gw_Cx p s m args c gb_Whole_word 7 R_Whole D cA) (hr : meth.sig.returnType = (some .int)) (hk : meth.locks = false) (u : gw_St) (x1 : Int32) (y3 : Int64) (sy0 : Int64)  {H : Heap} {locs : List Loc} {ls : Array Slot} (hW : gw_Wx D cA hs z s u H locs) (hl : lv_has ls 7 [(1, .int x1), (3, .long y3)]) (h : gf_Whole_word_b51 F z   u x1 y3 sy0 = some r0) : gw_Gi p l e gr_Whole_word s m args below meth c D cA hs z r0 H locs ls 51 [.long sy0] := by
  obtain ⟨hx, hb, hml, hown, hts, hK⟩ := id C
  unfold gf_Whole_word_b51 at h
  refine lv_lstore (lv' := [(5, .long sy0), (1, .int x1), (3, .long y3)]) hx hb gd_Whole_word_51 hl (by decide) rfl (fun ls hl => ?_)
  refine lv_lload hx hb gd_Whole_word_53 (lv_at hl 0 rfl) ?_
  refine lv_bipush (v := 31) hx hb gd_Whole_word_55 (by decide) ?_
  refine lv_lshl hx hb gd_Whole_word_57 rfl ?_
  refine lv_lload_n hx hb gd_Whole_word_58 rfl (lv_at hl 2 rfl) ?_
  refine lv_lor hx hb gd_Whole_word_59 ?_
  refine lv_iload_n hx hb gd_Whole_word_60 rfl (lv_at hl 1 rfl) ?_
  refine lv_bipush (v := 32) hx hb gd_Whole_word_61 (by decide) ?_
  refine lv_imul hx hb gd_Whole_word_63 ?_
  refine lv_bipush (v := 31) hx hb gd_Whole_word_64 (by decide) ?_
  obtain ⟨g1, h⟩ := gf_if_ok h
  refine lv_irem hx hb gd_Whole_word_66 g1 ?_
  refine lv_lshr hx hb gd_Whole_word_67 rfl ?_
  refine lv_l2i hx hb gd_Whole_word_68 rfl ?_
  obtain rfl := Option.some.inj h
  exact gw_iret C hW hr hk gd_Whole_word_69

set_option maxHeartbeats 4000000 in
set_option maxRecDepth 20000 in
theorem gx_Whole_word_b27 {p : Program} {l : Launch} {e : Env} {s : State} {m : MethodId} {args : Array Value} {below : List Frame} {meth : Method} {c : Code} {D : va_G} {cA : Nat → ClassId} {hs : Nat → Nat} {z : gw_Sh} (F : Nat) {r0 : (Int32 × gw_St)} (C : gw_Cx p s m args c gb_Whole_word 7 R_Whole D cA) (hr : meth.sig.returnType = (some .int)) (hk : meth.locks = false) (u : gw_St) (t0 : Nat) (x1 : Int32) (x2 : Int32) (sy0 : Int64) (o_t0 : gw_ok z t0 8) {H : Heap} {locs : List Loc} {ls : Array Slot} (hW : gw_Wx D cA hs z s u H locs) (hl : lv_has ls 7 [(0, .ref (hs t0)), (1, .int x1), (2, .int x2)]) (h : gf_Whole_word_b27 F z   u t0 x1 x2 sy0 = some r0) : gw_Gi p l e gr_Whole_word s m args below meth c D cA hs z r0 H locs ls 27 [.long sy0] := by
  obtain ⟨hx, hb, hml, hown, hts, hK⟩ := id C
  unfold gf_Whole_word_b27 at h
  refine lv_lstore_n (lv' := [(3, .long sy0), (0, .ref (hs t0)), (1, .int x1), (2, .int x2)]) hx hb gd_Whole_word_27 rfl hl (by decide) rfl (fun ls hl => ?_)
  refine lv_iload_n hx hb gd_Whole_word_28 rfl (lv_at hl 3 rfl) ?_
  refine lv_iconst (v := 1) hx hb gd_Whole_word_29 (by decide) ?_
  refine lv_iadd hx hb gd_Whole_word_30 ?_
  refine lv_aload_n hx hb gd_Whole_word_31 rfl (lv_at hl 1 rfl) ?_
  refine gw_geti (k := 1) (ref := R_Whole) C hW o_t0 (by decide) rfl gi_Whole rfl (by decide) rfl rfl gk_14 gd_Whole_word_32 ?_
  refine lv_icmp_ge (tgt := 50) hx hb gd_Whole_word_35 (by decide) (fun c2 => ?_) (fun c2 => ?_)
  · have h := gf_t c2 h
    refine lv_lconst (v := 0) hx hb gd_Whole_word_50 (by decide) ?_
    exact gx_Whole_word_b51 F C hr hk  u x1 sy0 0  hW (lv_sub hl [2, 0] rfl) h
  · have h := gf_f c2 h
    refine lv_aload_n hx hb gd_Whole_word_38 rfl (lv_at hl 1 rfl) ?_
    obtain ⟨q3, e4, h⟩ := gf_nn_ok h
    refine gw_getr (k := 0) (ty := 10) (ref := R_Whole) C hW o_t0 (by decide) rfl gi_Whole rfl (by decide) rfl rfl gk_15 gd_Whole_word_39 e4 ?_
    have o_q3 := hW.ref (d := 10) o_t0 e4 rfl
    refine lv_iload_n hx hb gd_Whole_word_42 rfl (lv_at hl 3 rfl) ?_
    refine lv_iconst (v := 1) hx hb gd_Whole_word_43 (by decide) ?_
    refine lv_iadd hx hb gd_Whole_word_44 ?_
    obtain ⟨g5, h⟩ := gf_if_ok h
    refine gw_iald C hW o_q3 g5 gd_Whole_word_45 ?_
    refine lv_i2l hx hb gd_Whole_word_46 rfl ?_
    refine lv_goto (tgt := 51) hx hb gd_Whole_word_47 (by decide) ?_
    exact gx_Whole_word_b51 F C hr hk  u x1 sy0 (((u.1 q3 ((x2 + (1 : Int32))).toNatClampNeg)).toInt64)  hW (lv_sub hl [2, 0] rfl) h

set_option maxHeartbeats 4000000 in
set_option maxRecDepth 20000 in
theorem gx_Whole_word_b0 {p : Program} {l : Launch} {e : Env} {s : State} {m : MethodId} {args : Array Value} {below : List Frame} {meth : Method} {c : Code} {D : va_G} {cA : Nat → ClassId} {hs : Nat → Nat} {z : gw_Sh} (F : Nat) {r0 : (Int32 × gw_St)} (C : gw_Cx p s m args c gb_Whole_word 7 R_Whole D cA) (hr : meth.sig.returnType = (some .int)) (hk : meth.locks = false) (u : gw_St) (t0 : Nat) (x1 : Int32) (o_t0 : gw_ok z t0 8) {H : Heap} {locs : List Loc} {ls : Array Slot} (hW : gw_Wx D cA hs z s u H locs) (hl : lv_has ls 7 [(0, .ref (hs t0)), (1, .int x1)]) (h : gf_Whole_word_b0 F z   u t0 x1 = some r0) : gw_Gi p l e gr_Whole_word s m args below meth c D cA hs z r0 H locs ls 0 [] := by
  obtain ⟨hx, hb, hml, hown, hts, hK⟩ := id C
  unfold gf_Whole_word_b0 at h
  refine lv_iload_n hx hb gd_Whole_word_0 rfl (lv_at hl 1 rfl) ?_
  refine lv_bipush (v := 32) hx hb gd_Whole_word_1 (by decide) ?_
  refine lv_imul hx hb gd_Whole_word_3 ?_
  refine lv_bipush (v := 31) hx hb gd_Whole_word_4 (by decide) ?_
  obtain ⟨g6, h⟩ := gf_if_ok h
  refine lv_idiv hx hb gd_Whole_word_6 g6 ?_
  refine lv_topi (fun a7 e8 => ?_)
  have h := gf_nm_ok e8 h
  refine lv_istore_n (lv' := [(2, .int a7), (0, .ref (hs t0)), (1, .int x1)]) hx hb gd_Whole_word_7 rfl hl (by decide) rfl (fun ls hl => ?_)
  refine lv_iload_n hx hb gd_Whole_word_8 rfl (lv_at hl 0 rfl) ?_
  refine lv_aload_n hx hb gd_Whole_word_9 rfl (lv_at hl 1 rfl) ?_
  refine gw_geti (k := 1) (ref := R_Whole) C hW o_t0 (by decide) rfl gi_Whole rfl (by decide) rfl rfl gk_14 gd_Whole_word_10 ?_
  refine lv_icmp_ge (tgt := 26) hx hb gd_Whole_word_13 (by decide) (fun c9 => ?_) (fun c9 => ?_)
  · have h := gf_t c9 h
    refine lv_lconst (v := 0) hx hb gd_Whole_word_26 (by decide) ?_
    exact gx_Whole_word_b27 F C hr hk  u t0 x1 a7 0 o_t0 hW (lv_sub hl [1, 2, 0] rfl) h
  · have h := gf_f c9 h
    refine lv_aload_n hx hb gd_Whole_word_16 rfl (lv_at hl 1 rfl) ?_
    obtain ⟨q10, e11, h⟩ := gf_nn_ok h
    refine gw_getr (k := 0) (ty := 10) (ref := R_Whole) C hW o_t0 (by decide) rfl gi_Whole rfl (by decide) rfl rfl gk_15 gd_Whole_word_17 e11 ?_
    have o_q10 := hW.ref (d := 10) o_t0 e11 rfl
    refine lv_iload_n hx hb gd_Whole_word_20 rfl (lv_at hl 0 rfl) ?_
    obtain ⟨g12, h⟩ := gf_if_ok h
    refine gw_iald C hW o_q10 g12 gd_Whole_word_21 ?_
    refine lv_i2l hx hb gd_Whole_word_22 rfl ?_
    refine lv_goto (tgt := 27) hx hb gd_Whole_word_23 (by decide) ?_
    exact gx_Whole_word_b27 F C hr hk  u t0 x1 a7 (((u.1 q10 (a7).toNatClampNeg)).toInt64) o_t0 hW (lv_sub hl [1, 2, 0] rfl) h

set_option maxRecDepth 20000 in
theorem gc_Whole_word (l : Launch) {D : va_G} {cA : Nat → ClassId} {hs : Nat → Nat} {z : gw_Sh} (F : Nat) {u : gw_St} {r0 : (Int32 × gw_St)} {t0 : Nat} {x1 : Int32} (o_t0 : gw_ok z t0 8) (h : gf_Whole_word F z u t0 x1 = some r0) (sz : Nat) : gw_Mi l gy_Whole_word gb_Whole_word 7 (some .int) gr_Whole_word [.ref (hs t0), .int x1] D cA hs z u sz r0 := by
  refine gw_enter (by decide) (Nat.le_of_ble_eq_true rfl) ?_
  intro p e s m below meth c ls hsz C hW hr hk _ hl
  subst hsz
  exact gx_Whole_word_b0 F C hr hk u t0 x1 o_t0 hW (lv_sub hl [0, 1] rfl) h
-- GearDesk$Whole.setProduct(LGearDesk$Whole;LGearDesk$Whole;)V
theorem gk_38 : Cond.methodLink R_Whole 50 gy_Arrays_fill2 ∈ gt_T := gt_m5 (List.mem_of_getElem? (i := 65) rfl) rfl
theorem gk_39 : Cond.static gy_Arrays_fill2 ∈ gt_T := gt_m3 (List.mem_of_getElem? (i := 38) rfl) rfl
def gy_Whole_setProduct : MethodName := ⟨R_Whole, "setProduct", "(LGearDesk$Whole;LGearDesk$Whole;)V"⟩
abbrev gb_Whole_setProduct : ByteArray := prog_8_method_6_code
theorem gk_40 : Cond.code gy_Whole_setProduct gb_Whole_setProduct 12 none ∈ gt_T := gt_m5 (List.mem_of_getElem? (i := 64) rfl) rfl
def gr_Whole_setProduct : Room := gw_rm 3 110
theorem gm_Whole_setProduct : gw_Mth gy_Whole_setProduct gb_Whole_setProduct 12 none 2 := ⟨gk_40, gk_16, ⟨by decide +kernel, by decide +kernel⟩, by decide +kernel⟩
theorem gd_Whole_setProduct_0 : decode gb_Whole_setProduct 0 = .ok (.aload_n 1, 1) := by decide +kernel
theorem gd_Whole_setProduct_1 : decode gb_Whole_setProduct 1 = .ok (.getfield 31, 3) := by decide +kernel
theorem gd_Whole_setProduct_4 : decode gb_Whole_setProduct 4 = .ok (.aload_n 2, 1) := by decide +kernel
theorem gd_Whole_setProduct_5 : decode gb_Whole_setProduct 5 = .ok (.getfield 31, 3) := by decide +kernel
theorem gd_Whole_setProduct_8 : decode gb_Whole_setProduct 8 = .ok (.iadd, 1) := by decide +kernel
theorem gd_Whole_setProduct_9 : decode gb_Whole_setProduct 9 = .ok (.istore_n 3, 1) := by decide +kernel
theorem gd_Whole_setProduct_10 : decode gb_Whole_setProduct 10 = .ok (.aload_n 0, 1) := by decide +kernel
theorem gd_Whole_setProduct_11 : decode gb_Whole_setProduct 11 = .ok (.getfield 9, 3) := by decide +kernel
theorem gd_Whole_setProduct_14 : decode gb_Whole_setProduct 14 = .ok (.iconst 0, 1) := by decide +kernel
theorem gd_Whole_setProduct_15 : decode gb_Whole_setProduct 15 = .ok (.iload_n 3, 1) := by decide +kernel
theorem gd_Whole_setProduct_16 : decode gb_Whole_setProduct 16 = .ok (.iconst 0, 1) := by decide +kernel
theorem gd_Whole_setProduct_17 : decode gb_Whole_setProduct 17 = .ok (.invokestatic 50, 3) := by decide +kernel
theorem gd_Whole_setProduct_20 : decode gb_Whole_setProduct 20 = .ok (.iconst 0, 1) := by decide +kernel
theorem gd_Whole_setProduct_21 : decode gb_Whole_setProduct 21 = .ok (.istore 4, 2) := by decide +kernel
theorem gd_Whole_setProduct_23 : decode gb_Whole_setProduct 23 = .ok (.iload 4, 2) := by decide +kernel
theorem gd_Whole_setProduct_25 : decode gb_Whole_setProduct 25 = .ok (.aload_n 1, 1) := by decide +kernel
theorem gd_Whole_setProduct_26 : decode gb_Whole_setProduct 26 = .ok (.getfield 31, 3) := by decide +kernel
theorem gd_Whole_setProduct_29 : decode gb_Whole_setProduct 29 = .ok (.if_icmp .ge 107, 3) := by decide +kernel
theorem gd_Whole_setProduct_32 : decode gb_Whole_setProduct 32 = .ok (.aload_n 1, 1) := by decide +kernel
theorem gd_Whole_setProduct_33 : decode gb_Whole_setProduct 33 = .ok (.getfield 9, 3) := by decide +kernel
theorem gd_Whole_setProduct_36 : decode gb_Whole_setProduct 36 = .ok (.iload 4, 2) := by decide +kernel
theorem gd_Whole_setProduct_38 : decode gb_Whole_setProduct 38 = .ok (.iaload, 1) := by decide +kernel
theorem gd_Whole_setProduct_39 : decode gb_Whole_setProduct 39 = .ok (.i2l, 1) := by decide +kernel
theorem gd_Whole_setProduct_40 : decode gb_Whole_setProduct 40 = .ok (.lstore 5, 2) := by decide +kernel
theorem gd_Whole_setProduct_42 : decode gb_Whole_setProduct 42 = .ok (.lconst 0, 1) := by decide +kernel
theorem gd_Whole_setProduct_43 : decode gb_Whole_setProduct 43 = .ok (.lstore 7, 2) := by decide +kernel
theorem gd_Whole_setProduct_45 : decode gb_Whole_setProduct 45 = .ok (.iconst 0, 1) := by decide +kernel
theorem gd_Whole_setProduct_46 : decode gb_Whole_setProduct 46 = .ok (.istore 9, 2) := by decide +kernel
theorem gd_Whole_setProduct_48 : decode gb_Whole_setProduct 48 = .ok (.iload 9, 2) := by decide +kernel
theorem gd_Whole_setProduct_50 : decode gb_Whole_setProduct 50 = .ok (.aload_n 2, 1) := by decide +kernel
theorem gd_Whole_setProduct_51 : decode gb_Whole_setProduct 51 = .ok (.getfield 31, 3) := by decide +kernel
theorem gd_Whole_setProduct_54 : decode gb_Whole_setProduct 54 = .ok (.if_icmp .ge 61, 3) := by decide +kernel
theorem gd_Whole_setProduct_57 : decode gb_Whole_setProduct 57 = .ok (.lload 5, 2) := by decide +kernel
theorem gd_Whole_setProduct_59 : decode gb_Whole_setProduct 59 = .ok (.aload_n 2, 1) := by decide +kernel
theorem gd_Whole_setProduct_60 : decode gb_Whole_setProduct 60 = .ok (.getfield 9, 3) := by decide +kernel
theorem gd_Whole_setProduct_63 : decode gb_Whole_setProduct 63 = .ok (.iload 9, 2) := by decide +kernel
theorem gd_Whole_setProduct_65 : decode gb_Whole_setProduct 65 = .ok (.iaload, 1) := by decide +kernel
theorem gd_Whole_setProduct_66 : decode gb_Whole_setProduct 66 = .ok (.i2l, 1) := by decide +kernel
theorem gd_Whole_setProduct_67 : decode gb_Whole_setProduct 67 = .ok (.lmul, 1) := by decide +kernel
theorem gd_Whole_setProduct_68 : decode gb_Whole_setProduct 68 = .ok (.aload_n 0, 1) := by decide +kernel
theorem gd_Whole_setProduct_69 : decode gb_Whole_setProduct 69 = .ok (.getfield 9, 3) := by decide +kernel
theorem gd_Whole_setProduct_72 : decode gb_Whole_setProduct 72 = .ok (.iload 4, 2) := by decide +kernel
theorem gd_Whole_setProduct_74 : decode gb_Whole_setProduct 74 = .ok (.iload 9, 2) := by decide +kernel
theorem gd_Whole_setProduct_76 : decode gb_Whole_setProduct 76 = .ok (.iadd, 1) := by decide +kernel
theorem gd_Whole_setProduct_77 : decode gb_Whole_setProduct 77 = .ok (.iaload, 1) := by decide +kernel
theorem gd_Whole_setProduct_78 : decode gb_Whole_setProduct 78 = .ok (.i2l, 1) := by decide +kernel
theorem gd_Whole_setProduct_79 : decode gb_Whole_setProduct 79 = .ok (.ladd, 1) := by decide +kernel
theorem gd_Whole_setProduct_80 : decode gb_Whole_setProduct 80 = .ok (.lload 7, 2) := by decide +kernel
theorem gd_Whole_setProduct_82 : decode gb_Whole_setProduct 82 = .ok (.ladd, 1) := by decide +kernel
theorem gd_Whole_setProduct_83 : decode gb_Whole_setProduct 83 = .ok (.lstore 10, 2) := by decide +kernel
theorem gd_Whole_setProduct_85 : decode gb_Whole_setProduct 85 = .ok (.aload_n 0, 1) := by decide +kernel
theorem gd_Whole_setProduct_86 : decode gb_Whole_setProduct 86 = .ok (.getfield 9, 3) := by decide +kernel
theorem gd_Whole_setProduct_89 : decode gb_Whole_setProduct 89 = .ok (.iload 4, 2) := by decide +kernel
theorem gd_Whole_setProduct_91 : decode gb_Whole_setProduct 91 = .ok (.iload 9, 2) := by decide +kernel
theorem gd_Whole_setProduct_93 : decode gb_Whole_setProduct 93 = .ok (.iadd, 1) := by decide +kernel
theorem gd_Whole_setProduct_94 : decode gb_Whole_setProduct 94 = .ok (.lload 10, 2) := by decide +kernel
theorem gd_Whole_setProduct_96 : decode gb_Whole_setProduct 96 = .ok (.ldc2_w 19, 3) := by decide +kernel
theorem gd_Whole_setProduct_99 : decode gb_Whole_setProduct 99 = .ok (.land, 1) := by decide +kernel
theorem gd_Whole_setProduct_100 : decode gb_Whole_setProduct 100 = .ok (.l2i, 1) := by decide +kernel
theorem gd_Whole_setProduct_101 : decode gb_Whole_setProduct 101 = .ok (.iastore, 1) := by decide +kernel
theorem gd_Whole_setProduct_102 : decode gb_Whole_setProduct 102 = .ok (.lload 10, 2) := by decide +kernel
theorem gd_Whole_setProduct_104 : decode gb_Whole_setProduct 104 = .ok (.bipush 31, 2) := by decide +kernel
theorem gd_Whole_setProduct_106 : decode gb_Whole_setProduct 106 = .ok (.lshr, 1) := by decide +kernel
theorem gd_Whole_setProduct_107 : decode gb_Whole_setProduct 107 = .ok (.lstore 7, 2) := by decide +kernel
theorem gd_Whole_setProduct_109 : decode gb_Whole_setProduct 109 = .ok (.iinc 9 1, 3) := by decide +kernel
theorem gd_Whole_setProduct_112 : decode gb_Whole_setProduct 112 = .ok (.goto (-64), 3) := by decide +kernel
theorem gd_Whole_setProduct_115 : decode gb_Whole_setProduct 115 = .ok (.aload_n 0, 1) := by decide +kernel
theorem gd_Whole_setProduct_116 : decode gb_Whole_setProduct 116 = .ok (.getfield 9, 3) := by decide +kernel
theorem gd_Whole_setProduct_119 : decode gb_Whole_setProduct 119 = .ok (.iload 4, 2) := by decide +kernel
theorem gd_Whole_setProduct_121 : decode gb_Whole_setProduct 121 = .ok (.aload_n 2, 1) := by decide +kernel
theorem gd_Whole_setProduct_122 : decode gb_Whole_setProduct 122 = .ok (.getfield 31, 3) := by decide +kernel
theorem gd_Whole_setProduct_125 : decode gb_Whole_setProduct 125 = .ok (.iadd, 1) := by decide +kernel
theorem gd_Whole_setProduct_126 : decode gb_Whole_setProduct 126 = .ok (.lload 7, 2) := by decide +kernel
theorem gd_Whole_setProduct_128 : decode gb_Whole_setProduct 128 = .ok (.l2i, 1) := by decide +kernel
theorem gd_Whole_setProduct_129 : decode gb_Whole_setProduct 129 = .ok (.iastore, 1) := by decide +kernel
theorem gd_Whole_setProduct_130 : decode gb_Whole_setProduct 130 = .ok (.iinc 4 1, 3) := by decide +kernel
theorem gd_Whole_setProduct_133 : decode gb_Whole_setProduct 133 = .ok (.goto (-110), 3) := by decide +kernel
theorem gd_Whole_setProduct_136 : decode gb_Whole_setProduct 136 = .ok (.aload_n 0, 1) := by decide +kernel
theorem gd_Whole_setProduct_137 : decode gb_Whole_setProduct 137 = .ok (.iload_n 3, 1) := by decide +kernel
theorem gd_Whole_setProduct_138 : decode gb_Whole_setProduct 138 = .ok (.aload_n 1, 1) := by decide +kernel
theorem gd_Whole_setProduct_139 : decode gb_Whole_setProduct 139 = .ok (.getfield 41, 3) := by decide +kernel
theorem gd_Whole_setProduct_142 : decode gb_Whole_setProduct 142 = .ok (.aload_n 2, 1) := by decide +kernel
theorem gd_Whole_setProduct_143 : decode gb_Whole_setProduct 143 = .ok (.getfield 41, 3) := by decide +kernel
theorem gd_Whole_setProduct_146 : decode gb_Whole_setProduct 146 = .ok (.imul, 1) := by decide +kernel
theorem gd_Whole_setProduct_147 : decode gb_Whole_setProduct 147 = .ok (.invokevirtual 27, 3) := by decide +kernel
theorem gd_Whole_setProduct_150 : decode gb_Whole_setProduct 150 = .ok (.return_, 1) := by decide +kernel
def gf_Whole_setProduct_S48 (F : Nat) (z : gw_Sh) (rc_23 : gw_St → Nat → Nat → Nat → Int32 → Int32 → Option gw_St) (rc_48 : gw_St → Nat → Nat → Nat → Int32 → Int32 → Int64 → Int64 → Int32 → Option gw_St) (u : gw_St) (t0 : Nat) (t1 : Nat) (t2 : Nat) (x3 : Int32) (x4 : Int32) (y5 : Int64) (y7 : Int64) (x9 : Int32) : Option gw_St :=
  if (u.1 t2 1) ≤ x9 then (gf_nn (u.2.2 t0 0) fun q2 => if ((x4 + (u.1 t2 1)) < 0 ∨ z.2.2 q2 ≤ ((x4 + (u.1 t2 1))).toNatClampNeg) then none else gf_nm (gw_wi u q2 ((x4 + (u.1 t2 1))).toNatClampNeg ((y7).toInt32)) fun u5 => gf_nm (x4 + 1) fun a7 => rc_23 u5 t0 t1 t2 x3 a7) else (gf_nn (u.2.2 t2 0) fun q9 => if (x9 < 0 ∨ z.2.2 q9 ≤ (x9).toNatClampNeg) then none else gf_nn (u.2.2 t0 0) fun q12 => if ((x4 + x9) < 0 ∨ z.2.2 q12 ≤ ((x4 + x9)).toNatClampNeg) then none else gf_nm (((y5 * (((u.1 q9 (x9).toNatClampNeg)).toInt64)) + (((u.1 q12 ((x4 + x9)).toNatClampNeg)).toInt64)) + y7) fun a15 => gf_nn (u.2.2 t0 0) fun q17 => if ((x4 + x9) < 0 ∨ z.2.2 q17 ≤ ((x4 + x9)).toNatClampNeg) then none else gf_nm (gw_wi u q17 ((x4 + x9)).toNatClampNeg (((a15 &&& (2147483647 : Int64))).toInt32)) fun u20 => gf_nm (a15 >>> (((31 : Int32)).toInt64 &&& 63)) fun a22 => gf_nm (x9 + 1) fun a24 => rc_48 u20 t0 t1 t2 x3 x4 y5 a22 a24)
def gf_Whole_setProduct_L48 (F : Nat) (z : gw_Sh) (rc_23 : gw_St → Nat → Nat → Nat → Int32 → Int32 → Option gw_St) : Nat → gw_St → Nat → Nat → Nat → Int32 → Int32 → Int64 → Int64 → Int32 → Option gw_St
  | 0 => fun _ _ _ _ _ _ _ _ _ => none
  | n + 1 => fun u t0 t1 t2 x3 x4 y5 y7 x9 => gf_Whole_setProduct_S48 F z rc_23 (gf_Whole_setProduct_L48 F z rc_23 n) u t0 t1 t2 x3 x4 y5 y7 x9
def gf_Whole_setProduct_S23 (F : Nat) (z : gw_Sh)  (rc_23 : gw_St → Nat → Nat → Nat → Int32 → Int32 → Option gw_St) (u : gw_St) (t0 : Nat) (t1 : Nat) (t2 : Nat) (x3 : Int32) (x4 : Int32) : Option gw_St :=
  if (u.1 t1 1) ≤ x4 then ((gf_Whole_settle F z u t0 x3 ((u.1 t1 2) * (u.1 t2 2))).bind fun u27 => some u27) else (gf_nn (u.2.2 t1 0) fun q29 => if (x4 < 0 ∨ z.2.2 q29 ≤ (x4).toNatClampNeg) then none else gf_nm (((u.1 q29 (x4).toNatClampNeg)).toInt64) fun a32 => gf_Whole_setProduct_L48 F z rc_23 F u t0 t1 t2 x3 x4 a32 0 0)
def gf_Whole_setProduct_L23 (F : Nat) (z : gw_Sh)  : Nat → gw_St → Nat → Nat → Nat → Int32 → Int32 → Option gw_St
  | 0 => fun _ _ _ _ _ _ => none
  | n + 1 => fun u t0 t1 t2 x3 x4 => gf_Whole_setProduct_S23 F z  (gf_Whole_setProduct_L23 F z  n) u t0 t1 t2 x3 x4
def gf_Whole_setProduct_b0 (F : Nat) (z : gw_Sh)  (u : gw_St) (t0 : Nat) (t1 : Nat) (t2 : Nat) : Option gw_St :=
  gf_nm ((u.1 t1 1) + (u.1 t2 1)) fun a34 => gf_nn (u.2.2 t0 0) fun q36 => (gf_Arrays_fill2 F z u q36 (0 : Int32) a34 (0 : Int32)).bind fun u38 => gf_Whole_setProduct_L23 F z  F u38 t0 t1 t2 a34 0
def gf_Whole_setProduct (F : Nat) (z : gw_Sh) (u : gw_St) (t0 : Nat) (t1 : Nat) (t2 : Nat) : Option gw_St := gf_Whole_setProduct_b0 F z  u t0 t1 t2
set_option maxHeartbeats 4000000 in
set_option maxRecDepth 20000 in
theorem gx_Whole_setProduct_S48 {p : Program} {l : Launch} {e : Env} {s : State} {m : MethodId} {args : Array Value} {below : List Frame} {meth : Method} {c : Code} {D : va_G} {cA : Nat → ClassId} {hs : Nat → Nat} {z : gw_Sh} (F : Nat) {r0 : gw_St} (C : gw_Cx p s m args c gb_Whole_setProduct 12 R_Whole D cA) (hr : meth.sig.returnType = none) (hk : meth.locks = false) {rc_23 : gw_St → Nat → Nat → Nat → Int32 → Int32 → Option gw_St} (k_23 : ∀ (u : gw_St) (t0 : Nat) (t1 : Nat) (t2 : Nat) (x3 : Int32) (x4 : Int32) (H : Heap) (locs : List Loc) (ls : Array Slot), gw_ok z t0 8 → gw_ok z t1 8 → gw_ok z t2 8 → gw_Wx D cA hs z s u H locs → lv_has ls 12 [(0, .ref (hs t0)), (1, .ref (hs t1)), (2, .ref (hs t2)), (3, .int x3), (4, .int x4)] → rc_23 u t0 t1 t2 x3 x4 = some r0 → gw_Gv p l e gr_Whole_setProduct s m args below meth c D cA hs z r0 H locs ls 23 []) {rc_48 : gw_St → Nat → Nat → Nat → Int32 → Int32 → Int64 → Int64 → Int32 → Option gw_St} (k_48 : ∀ (u : gw_St) (t0 : Nat) (t1 : Nat) (t2 : Nat) (x3 : Int32) (x4 : Int32) (y5 : Int64) (y7 : Int64) (x9 : Int32) (H : Heap) (locs : List Loc) (ls : Array Slot), gw_ok z t0 8 → gw_ok z t1 8 → gw_ok z t2 8 → gw_Wx D cA hs z s u H locs → lv_has ls 12 [(0, .ref (hs t0)), (1, .ref (hs t1)), (2, .ref (hs t2)), (3, .int x3), (4, .int x4), (5, .long y5), (7, .long y7), (9, .int x9)] → rc_48 u t0 t1 t2 x3 x4 y5 y7 x9 = some r0 → gw_Gv p l e gr_Whole_setProduct s m args below meth c D cA hs z r0 H locs ls 48 []) (u : gw_St) (t0 : Nat) (t1 : Nat) (t2 : Nat) (x3 : Int32) (x4 : Int32) (y5 : Int64) (y7 : Int64) (x9 : Int32) (o_t0 : gw_ok z t0 8) (o_t1 : gw_ok z t1 8) (o_t2 : gw_ok z t2 8) {H : Heap} {locs : List Loc} {ls : Array Slot} (hW : gw_Wx D cA hs z s u H locs) (hl : lv_has ls 12 [(0, .ref (hs t0)), (1, .ref (hs t1)), (2, .ref (hs t2)), (3, .int x3), (4, .int x4), (5, .long y5), (7, .long y7), (9, .int x9)]) (h : gf_Whole_setProduct_S48 F z rc_23 rc_48 u t0 t1 t2 x3 x4 y5 y7 x9 = some r0) : gw_Gv p l e gr_Whole_setProduct s m args below meth c D cA hs z r0 H locs ls 48 [] := by
  obtain ⟨hx, hb, hml, hown, hts, hK⟩ := id C
  unfold gf_Whole_setProduct_S48 at h
  refine lv_iload hx hb gd_Whole_setProduct_48 (lv_at hl 7 rfl) ?_
  refine lv_aload_n hx hb gd_Whole_setProduct_50 rfl (lv_at hl 2 rfl) ?_
  refine gw_geti (k := 1) (ref := R_Whole) C hW o_t2 (by decide) rfl gi_Whole rfl (by decide) rfl rfl gk_14 gd_Whole_setProduct_51 ?_
  refine lv_icmp_ge (tgt := 115) hx hb gd_Whole_setProduct_54 (by decide) (fun c1 => ?_) (fun c1 => ?_)
  · have h := gf_t c1 h
    refine lv_aload_n hx hb gd_Whole_setProduct_115 rfl (lv_at hl 0 rfl) ?_
    obtain ⟨q2, e3, h⟩ := gf_nn_ok h
    refine gw_getr (k := 0) (ty := 10) (ref := R_Whole) C hW o_t0 (by decide) rfl gi_Whole rfl (by decide) rfl rfl gk_15 gd_Whole_setProduct_116 e3 ?_
    have o_q2 := hW.ref (d := 10) o_t0 e3 rfl
    refine lv_iload hx hb gd_Whole_setProduct_119 (lv_at hl 4 rfl) ?_
    refine lv_aload_n hx hb gd_Whole_setProduct_121 rfl (lv_at hl 2 rfl) ?_
    refine gw_geti (k := 1) (ref := R_Whole) C hW o_t2 (by decide) rfl gi_Whole rfl (by decide) rfl rfl gk_14 gd_Whole_setProduct_122 ?_
    refine lv_iadd hx hb gd_Whole_setProduct_125 ?_
    refine lv_lload hx hb gd_Whole_setProduct_126 (lv_at hl 6 rfl) ?_
    refine lv_l2i hx hb gd_Whole_setProduct_128 rfl ?_
    obtain ⟨g4, h⟩ := gf_if_ok h
    refine gw_iast C hW o_q2 g4 gd_Whole_setProduct_129 (fun u5 H locs e6 hW => ?_)
    have h := gf_nm_ok e6 h
    obtain ⟨a7, e8⟩ : ∃ y : Int32, y = x4 + 1 := ⟨_, rfl⟩
    have h := gf_nm_ok e8 h
    refine lv_iinc (v := a7) (lv' := [(4, .int a7), (0, .ref (hs t0)), (1, .ref (hs t1)), (2, .ref (hs t2)), (3, .int x3), (5, .long y5), (7, .long y7), (9, .int x9)]) hx hb gd_Whole_setProduct_130 hl (k := 4) rfl (by rw [e8]; rfl) (by decide) rfl (fun ls hl => ?_)
    refine lv_goto (tgt := 23) hx hb gd_Whole_setProduct_133 (by decide) ?_
    exact k_23 u5 t0 t1 t2 x3 a7 _ _ _ o_t0 o_t1 o_t2 hW (lv_sub hl [1, 2, 3, 4, 0] rfl) h
  · have h := gf_f c1 h
    refine lv_lload hx hb gd_Whole_setProduct_57 (lv_at hl 5 rfl) ?_
    refine lv_aload_n hx hb gd_Whole_setProduct_59 rfl (lv_at hl 2 rfl) ?_
    obtain ⟨q9, e10, h⟩ := gf_nn_ok h
    refine gw_getr (k := 0) (ty := 10) (ref := R_Whole) C hW o_t2 (by decide) rfl gi_Whole rfl (by decide) rfl rfl gk_15 gd_Whole_setProduct_60 e10 ?_
    have o_q9 := hW.ref (d := 10) o_t2 e10 rfl
    refine lv_iload hx hb gd_Whole_setProduct_63 (lv_at hl 7 rfl) ?_
    obtain ⟨g11, h⟩ := gf_if_ok h
    refine gw_iald C hW o_q9 g11 gd_Whole_setProduct_65 ?_
    refine lv_i2l hx hb gd_Whole_setProduct_66 rfl ?_
    refine lv_lmul hx hb gd_Whole_setProduct_67 ?_
    refine lv_aload_n hx hb gd_Whole_setProduct_68 rfl (lv_at hl 0 rfl) ?_
    obtain ⟨q12, e13, h⟩ := gf_nn_ok h
    refine gw_getr (k := 0) (ty := 10) (ref := R_Whole) C hW o_t0 (by decide) rfl gi_Whole rfl (by decide) rfl rfl gk_15 gd_Whole_setProduct_69 e13 ?_
    have o_q12 := hW.ref (d := 10) o_t0 e13 rfl
    refine lv_iload hx hb gd_Whole_setProduct_72 (lv_at hl 4 rfl) ?_
    refine lv_iload hx hb gd_Whole_setProduct_74 (lv_at hl 7 rfl) ?_
    refine lv_iadd hx hb gd_Whole_setProduct_76 ?_
    obtain ⟨g14, h⟩ := gf_if_ok h
    refine gw_iald C hW o_q12 g14 gd_Whole_setProduct_77 ?_
    refine lv_i2l hx hb gd_Whole_setProduct_78 rfl ?_
    refine lv_ladd hx hb gd_Whole_setProduct_79 ?_
    refine lv_lload hx hb gd_Whole_setProduct_80 (lv_at hl 6 rfl) ?_
    refine lv_ladd hx hb gd_Whole_setProduct_82 ?_
    refine lv_topl (fun a15 e16 => ?_)
    have h := gf_nm_ok e16 h
    refine lv_lstore (lv' := [(10, .long a15), (0, .ref (hs t0)), (1, .ref (hs t1)), (2, .ref (hs t2)), (3, .int x3), (4, .int x4), (5, .long y5), (7, .long y7), (9, .int x9)]) hx hb gd_Whole_setProduct_83 hl (by decide) rfl (fun ls hl => ?_)
    refine lv_aload_n hx hb gd_Whole_setProduct_85 rfl (lv_at hl 1 rfl) ?_
    obtain ⟨q17, e18, h⟩ := gf_nn_ok h
    refine gw_getr (k := 0) (ty := 10) (ref := R_Whole) C hW o_t0 (by decide) rfl gi_Whole rfl (by decide) rfl rfl gk_15 gd_Whole_setProduct_86 e18 ?_
    have o_q17 := hW.ref (d := 10) o_t0 e18 rfl
    refine lv_iload hx hb gd_Whole_setProduct_89 (lv_at hl 5 rfl) ?_
    refine lv_iload hx hb gd_Whole_setProduct_91 (lv_at hl 8 rfl) ?_
    refine lv_iadd hx hb gd_Whole_setProduct_93 ?_
    refine lv_lload hx hb gd_Whole_setProduct_94 (lv_at hl 0 rfl) ?_
    refine lv_ldc2 (v := 2147483647) hx hb hown (hts _ gk_23) gd_Whole_setProduct_96 ?_
    refine lv_land hx hb gd_Whole_setProduct_99 ?_
    refine lv_l2i hx hb gd_Whole_setProduct_100 rfl ?_
    obtain ⟨g19, h⟩ := gf_if_ok h
    refine gw_iast C hW o_q17 g19 gd_Whole_setProduct_101 (fun u20 H locs e21 hW => ?_)
    have h := gf_nm_ok e21 h
    refine lv_lload hx hb gd_Whole_setProduct_102 (lv_at hl 0 rfl) ?_
    refine lv_bipush (v := 31) hx hb gd_Whole_setProduct_104 (by decide) ?_
    refine lv_lshr hx hb gd_Whole_setProduct_106 rfl ?_
    refine lv_topl (fun a22 e23 => ?_)
    have h := gf_nm_ok e23 h
    refine lv_lstore (lv' := [(7, .long a22), (10, .long a15), (0, .ref (hs t0)), (1, .ref (hs t1)), (2, .ref (hs t2)), (3, .int x3), (4, .int x4), (5, .long y5), (9, .int x9)]) hx hb gd_Whole_setProduct_107 hl (by decide) rfl (fun ls hl => ?_)
    obtain ⟨a24, e25⟩ : ∃ y : Int32, y = x9 + 1 := ⟨_, rfl⟩
    have h := gf_nm_ok e25 h
    refine lv_iinc (v := a24) (lv' := [(9, .int a24), (7, .long a22), (10, .long a15), (0, .ref (hs t0)), (1, .ref (hs t1)), (2, .ref (hs t2)), (3, .int x3), (4, .int x4), (5, .long y5)]) hx hb gd_Whole_setProduct_109 hl (k := 8) rfl (by rw [e25]; rfl) (by decide) rfl (fun ls hl => ?_)
    refine lv_goto (tgt := 48) hx hb gd_Whole_setProduct_112 (by decide) ?_
    exact k_48 u20 t0 t1 t2 x3 x4 y5 a22 a24 _ _ _ o_t0 o_t1 o_t2 hW (lv_sub hl [3, 4, 5, 6, 7, 8, 1, 0] rfl) h
set_option maxHeartbeats 4000000 in
set_option maxRecDepth 20000 in
theorem gx_Whole_setProduct_L48 {p : Program} {l : Launch} {e : Env} {s : State} {m : MethodId} {args : Array Value} {below : List Frame} {meth : Method} {c : Code} {D : va_G} {cA : Nat → ClassId} {hs : Nat → Nat} {z : gw_Sh} (F : Nat) {r0 : gw_St} (C : gw_Cx p s m args c gb_Whole_setProduct 12 R_Whole D cA) (hr : meth.sig.returnType = none) (hk : meth.locks = false) {rc_23 : gw_St → Nat → Nat → Nat → Int32 → Int32 → Option gw_St} (k_23 : ∀ (u : gw_St) (t0 : Nat) (t1 : Nat) (t2 : Nat) (x3 : Int32) (x4 : Int32) (H : Heap) (locs : List Loc) (ls : Array Slot), gw_ok z t0 8 → gw_ok z t1 8 → gw_ok z t2 8 → gw_Wx D cA hs z s u H locs → lv_has ls 12 [(0, .ref (hs t0)), (1, .ref (hs t1)), (2, .ref (hs t2)), (3, .int x3), (4, .int x4)] → rc_23 u t0 t1 t2 x3 x4 = some r0 → gw_Gv p l e gr_Whole_setProduct s m args below meth c D cA hs z r0 H locs ls 23 []) : ∀ (n : Nat), ∀ (u : gw_St) (t0 : Nat) (t1 : Nat) (t2 : Nat) (x3 : Int32) (x4 : Int32) (y5 : Int64) (y7 : Int64) (x9 : Int32) (H : Heap) (locs : List Loc) (ls : Array Slot), gw_ok z t0 8 → gw_ok z t1 8 → gw_ok z t2 8 → gw_Wx D cA hs z s u H locs → lv_has ls 12 [(0, .ref (hs t0)), (1, .ref (hs t1)), (2, .ref (hs t2)), (3, .int x3), (4, .int x4), (5, .long y5), (7, .long y7), (9, .int x9)] → gf_Whole_setProduct_L48 F z rc_23 n u t0 t1 t2 x3 x4 y5 y7 x9 = some r0 → gw_Gv p l e gr_Whole_setProduct s m args below meth c D cA hs z r0 H locs ls 48 [] := by
  intro n
  induction n with
  | zero =>
    intro u t0 t1 t2 x3 x4 y5 y7 x9 H locs ls o_t0 o_t1 o_t2 hW hl h
    cases h
  | succ n ih =>
    intro u t0 t1 t2 x3 x4 y5 y7 x9 H locs ls o_t0 o_t1 o_t2 hW hl h
    exact gx_Whole_setProduct_S48 F C hr hk k_23 ih u t0 t1 t2 x3 x4 y5 y7 x9 o_t0 o_t1 o_t2 hW hl h

set_option maxHeartbeats 4000000 in
set_option maxRecDepth 20000 in
theorem gx_Whole_setProduct_S23 {p : Program} {l : Launch} {e : Env} {s : State} {m : MethodId} {args : Array Value} {below : List Frame} {meth : Method} {c : Code} {D : va_G} {cA : Nat → ClassId} {hs : Nat → Nat} {z : gw_Sh} (F : Nat) {r0 : gw_St} (C : gw_Cx p s m args c gb_Whole_setProduct 12 R_Whole D cA) (hr : meth.sig.returnType = none) (hk : meth.locks = false) {rc_23 : gw_St → Nat → Nat → Nat → Int32 → Int32 → Option gw_St} (k_23 : ∀ (u : gw_St) (t0 : Nat) (t1 : Nat) (t2 : Nat) (x3 : Int32) (x4 : Int32) (H : Heap) (locs : List Loc) (ls : Array Slot), gw_ok z t0 8 → gw_ok z t1 8 → gw_ok z t2 8 → gw_Wx D cA hs z s u H locs → lv_has ls 12 [(0, .ref (hs t0)), (1, .ref (hs t1)), (2, .ref (hs t2)), (3, .int x3), (4, .int x4)] → rc_23 u t0 t1 t2 x3 x4 = some r0 → gw_Gv p l e gr_Whole_setProduct s m args below meth c D cA hs z r0 H locs ls 23 []) (u : gw_St) (t0 : Nat) (t1 : Nat) (t2 : Nat) (x3 : Int32) (x4 : Int32) (o_t0 : gw_ok z t0 8) (o_t1 : gw_ok z t1 8) (o_t2 : gw_ok z t2 8) {H : Heap} {locs : List Loc} {ls : Array Slot} (hW : gw_Wx D cA hs z s u H locs) (hl : lv_has ls 12 [(0, .ref (hs t0)), (1, .ref (hs t1)), (2, .ref (hs t2)), (3, .int x3), (4, .int x4)]) (h : gf_Whole_setProduct_S23 F z  rc_23 u t0 t1 t2 x3 x4 = some r0) : gw_Gv p l e gr_Whole_setProduct s m args below meth c D cA hs z r0 H locs ls 23 [] := by
  obtain ⟨hx, hb, hml, hown, hts, hK⟩ := id C
  unfold gf_Whole_setProduct_S23 at h
  refine lv_iload hx hb gd_Whole_setProduct_23 (lv_at hl 4 rfl) ?_
  refine lv_aload_n hx hb gd_Whole_setProduct_25 rfl (lv_at hl 1 rfl) ?_
  refine gw_geti (k := 1) (ref := R_Whole) C hW o_t1 (by decide) rfl gi_Whole rfl (by decide) rfl rfl gk_14 gd_Whole_setProduct_26 ?_
  refine lv_icmp_ge (tgt := 136) hx hb gd_Whole_setProduct_29 (by decide) (fun c26 => ?_) (fun c26 => ?_)
  · have h := gf_t c26 h
    refine lv_aload_n hx hb gd_Whole_setProduct_136 rfl (lv_at hl 0 rfl) ?_
    refine lv_iload_n hx hb gd_Whole_setProduct_137 rfl (lv_at hl 3 rfl) ?_
    refine lv_aload_n hx hb gd_Whole_setProduct_138 rfl (lv_at hl 1 rfl) ?_
    refine gw_geti (k := 2) (ref := R_Whole) C hW o_t1 (by decide) rfl gi_Whole rfl (by decide) rfl rfl gk_13 gd_Whole_setProduct_139 ?_
    refine lv_aload_n hx hb gd_Whole_setProduct_142 rfl (lv_at hl 2 rfl) ?_
    refine gw_geti (k := 2) (ref := R_Whole) C hW o_t2 (by decide) rfl gi_Whole rfl (by decide) rfl rfl gk_13 gd_Whole_setProduct_143 ?_
    refine lv_imul hx hb gd_Whole_setProduct_146 ?_
    obtain ⟨u27, d28, h⟩ := gf_bd_ok h
    refine gw_callVv (K := R_Whole) (As := [.int x3, .int ((u.1 t1 2) * (u.1 t2 2))]) (rest := []) C hW (fun _ h => Or.inr h) hl.1 gm_Whole_settle (gc_Whole_settle l F o_t0 d28 _) gk_20 gk_21 gk_22 o_t0 (by decide) rfl rfl rfl ⟨Nat.le_of_ble_eq_true rfl, Nat.le_of_ble_eq_true rfl⟩ ⟨Nat.zero_le _, Nat.zero_le _⟩ rfl rfl (Nat.le_of_ble_eq_true rfl) gd_Whole_setProduct_147 (fun H locs hW => ?_)
    obtain rfl := Option.some.inj h
    exact gw_vret C hW hr hk gd_Whole_setProduct_150
  · have h := gf_f c26 h
    refine lv_aload_n hx hb gd_Whole_setProduct_32 rfl (lv_at hl 1 rfl) ?_
    obtain ⟨q29, e30, h⟩ := gf_nn_ok h
    refine gw_getr (k := 0) (ty := 10) (ref := R_Whole) C hW o_t1 (by decide) rfl gi_Whole rfl (by decide) rfl rfl gk_15 gd_Whole_setProduct_33 e30 ?_
    have o_q29 := hW.ref (d := 10) o_t1 e30 rfl
    refine lv_iload hx hb gd_Whole_setProduct_36 (lv_at hl 4 rfl) ?_
    obtain ⟨g31, h⟩ := gf_if_ok h
    refine gw_iald C hW o_q29 g31 gd_Whole_setProduct_38 ?_
    refine lv_i2l hx hb gd_Whole_setProduct_39 rfl ?_
    refine lv_topl (fun a32 e33 => ?_)
    have h := gf_nm_ok e33 h
    refine lv_lstore (lv' := [(5, .long a32), (0, .ref (hs t0)), (1, .ref (hs t1)), (2, .ref (hs t2)), (3, .int x3), (4, .int x4)]) hx hb gd_Whole_setProduct_40 hl (by decide) rfl (fun ls hl => ?_)
    refine lv_lconst (v := 0) hx hb gd_Whole_setProduct_42 (by decide) ?_
    refine lv_lstore (lv' := [(7, .long 0), (5, .long a32), (0, .ref (hs t0)), (1, .ref (hs t1)), (2, .ref (hs t2)), (3, .int x3), (4, .int x4)]) hx hb gd_Whole_setProduct_43 hl (by decide) rfl (fun ls hl => ?_)
    refine lv_iconst (v := 0) hx hb gd_Whole_setProduct_45 (by decide) ?_
    refine lv_istore (lv' := [(9, .int 0), (7, .long 0), (5, .long a32), (0, .ref (hs t0)), (1, .ref (hs t1)), (2, .ref (hs t2)), (3, .int x3), (4, .int x4)]) hx hb gd_Whole_setProduct_46 hl (by decide) rfl (fun ls hl => ?_)
    exact gx_Whole_setProduct_L48 F C hr hk k_23 F u t0 t1 t2 x3 x4 a32 0 0 _ _ _ o_t0 o_t1 o_t2 hW (lv_sub hl [3, 4, 5, 6, 7, 2, 1, 0] rfl) h
set_option maxHeartbeats 4000000 in
set_option maxRecDepth 20000 in
theorem gx_Whole_setProduct_L23 {p : Program} {l : Launch} {e : Env} {s : State} {m : MethodId} {args : Array Value} {below : List Frame} {meth : Method} {c : Code} {D : va_G} {cA : Nat → ClassId} {hs : Nat → Nat} {z : gw_Sh} (F : Nat) {r0 : gw_St} (C : gw_Cx p s m args c gb_Whole_setProduct 12 R_Whole D cA) (hr : meth.sig.returnType = none) (hk : meth.locks = false) : ∀ (n : Nat), ∀ (u : gw_St) (t0 : Nat) (t1 : Nat) (t2 : Nat) (x3 : Int32) (x4 : Int32) (H : Heap) (locs : List Loc) (ls : Array Slot), gw_ok z t0 8 → gw_ok z t1 8 → gw_ok z t2 8 → gw_Wx D cA hs z s u H locs → lv_has ls 12 [(0, .ref (hs t0)), (1, .ref (hs t1)), (2, .ref (hs t2)), (3, .int x3), (4, .int x4)] → gf_Whole_setProduct_L23 F z  n u t0 t1 t2 x3 x4 = some r0 → gw_Gv p l e gr_Whole_setProduct s m args below meth c D cA hs z r0 H locs ls 23 [] := by
  intro n
  induction n with
  | zero =>
    intro u t0 t1 t2 x3 x4 H locs ls o_t0 o_t1 o_t2 hW hl h
    cases h
  | succ n ih =>
    intro u t0 t1 t2 x3 x4 H locs ls o_t0 o_t1 o_t2 hW hl h
    exact gx_Whole_setProduct_S23 F C hr hk  ih u t0 t1 t2 x3 x4 o_t0 o_t1 o_t2 hW hl h

set_option maxHeartbeats 4000000 in
set_option maxRecDepth 20000 in
theorem gx_Whole_setProduct_b0 {p : Program} {l : Launch} {e : Env} {s : State} {m : MethodId} {args : Array Value} {below : List Frame} {meth : Method} {c : Code} {D : va_G} {cA : Nat → ClassId} {hs : Nat → Nat} {z : gw_Sh} (F : Nat) {r0 : gw_St} (C : gw_Cx p s m args c gb_Whole_setProduct 12 R_Whole D cA) (hr : meth.sig.returnType = none) (hk : meth.locks = false) (u : gw_St) (t0 : Nat) (t1 : Nat) (t2 : Nat) (o_t0 : gw_ok z t0 8) (o_t1 : gw_ok z t1 8) (o_t2 : gw_ok z t2 8) {H : Heap} {locs : List Loc} {ls : Array Slot} (hW : gw_Wx D cA hs z s u H locs) (hl : lv_has ls 12 [(0, .ref (hs t0)), (1, .ref (hs t1)), (2, .ref (hs t2))]) (h : gf_Whole_setProduct_b0 F z   u t0 t1 t2 = some r0) : gw_Gv p l e gr_Whole_setProduct s m args below meth c D cA hs z r0 H locs ls 0 [] := by
  obtain ⟨hx, hb, hml, hown, hts, hK⟩ := id C
  unfold gf_Whole_setProduct_b0 at h
  refine lv_aload_n hx hb gd_Whole_setProduct_0 rfl (lv_at hl 1 rfl) ?_
  refine gw_geti (k := 1) (ref := R_Whole) C hW o_t1 (by decide) rfl gi_Whole rfl (by decide) rfl rfl gk_14 gd_Whole_setProduct_1 ?_
  refine lv_aload_n hx hb gd_Whole_setProduct_4 rfl (lv_at hl 2 rfl) ?_
  refine gw_geti (k := 1) (ref := R_Whole) C hW o_t2 (by decide) rfl gi_Whole rfl (by decide) rfl rfl gk_14 gd_Whole_setProduct_5 ?_
  refine lv_iadd hx hb gd_Whole_setProduct_8 ?_
  refine lv_topi (fun a34 e35 => ?_)
  have h := gf_nm_ok e35 h
  refine lv_istore_n (lv' := [(3, .int a34), (0, .ref (hs t0)), (1, .ref (hs t1)), (2, .ref (hs t2))]) hx hb gd_Whole_setProduct_9 rfl hl (by decide) rfl (fun ls hl => ?_)
  refine lv_aload_n hx hb gd_Whole_setProduct_10 rfl (lv_at hl 1 rfl) ?_
  obtain ⟨q36, e37, h⟩ := gf_nn_ok h
  refine gw_getr (k := 0) (ty := 10) (ref := R_Whole) C hW o_t0 (by decide) rfl gi_Whole rfl (by decide) rfl rfl gk_15 gd_Whole_setProduct_11 e37 ?_
  have o_q36 := hW.ref (d := 10) o_t0 e37 rfl
  refine lv_iconst (v := 0) hx hb gd_Whole_setProduct_14 (by decide) ?_
  refine lv_iload_n hx hb gd_Whole_setProduct_15 rfl (lv_at hl 0 rfl) ?_
  refine lv_iconst (v := 0) hx hb gd_Whole_setProduct_16 (by decide) ?_
  obtain ⟨u38, d39, h⟩ := gf_bd_ok h
  refine gw_callSv (As := [.ref (hs q36), .int (0 : Int32), .int a34, .int (0 : Int32)]) (rest := []) C hW (fun _ h => Or.inr h) hl.1 gm_Arrays_fill2 (gc_Arrays_fill2 l F o_q36 d39 _) gk_38 gk_39 rfl rfl ⟨Nat.le_of_ble_eq_true rfl, Nat.le_of_ble_eq_true rfl⟩ ⟨Nat.zero_le _, Nat.zero_le _⟩ rfl rfl (Nat.le_of_ble_eq_true rfl) gd_Whole_setProduct_17 (fun H locs hW => ?_)
  refine lv_iconst (v := 0) hx hb gd_Whole_setProduct_20 (by decide) ?_
  refine lv_istore (lv' := [(4, .int 0), (3, .int a34), (0, .ref (hs t0)), (1, .ref (hs t1)), (2, .ref (hs t2))]) hx hb gd_Whole_setProduct_21 hl (by decide) rfl (fun ls hl => ?_)
  exact gx_Whole_setProduct_L23 F C hr hk  F u38 t0 t1 t2 a34 0 _ _ _ o_t0 o_t1 o_t2 hW (lv_sub hl [2, 3, 4, 1, 0] rfl) h

set_option maxRecDepth 20000 in
theorem gc_Whole_setProduct (l : Launch) {D : va_G} {cA : Nat → ClassId} {hs : Nat → Nat} {z : gw_Sh} (F : Nat) {u : gw_St} {r0 : gw_St} {t0 : Nat} {t1 : Nat} {t2 : Nat} (o_t0 : gw_ok z t0 8) (o_t1 : gw_ok z t1 8) (o_t2 : gw_ok z t2 8) (h : gf_Whole_setProduct F z u t0 t1 t2 = some r0) (sz : Nat) : gw_Mv l gy_Whole_setProduct gb_Whole_setProduct 12 none gr_Whole_setProduct [.ref (hs t0), .ref (hs t1), .ref (hs t2)] D cA hs z u sz r0 := by
  refine gw_enter (by decide) (Nat.le_of_ble_eq_true rfl) ?_
  intro p e s m below meth c ls hsz C hW hr hk _ hl
  subst hsz
  exact gx_Whole_setProduct_b0 F C hr hk u t0 t1 t2 o_t0 o_t1 o_t2 hW (lv_sub hl [0, 1, 2] rfl) h
-- GearDesk$Whole.combine(LGearDesk$Whole;LGearDesk$Whole;II)V
theorem gk_41 : Cond.methodLink R_Whole 64 Lib.Math.max.name ∈ gt_T := gt_m5 (List.mem_of_getElem? (i := 74) rfl) rfl
theorem gk_42 : Cond.static Lib.Math.max.name ∈ gt_T := gt_m3 (List.mem_of_getElem? (i := 100) rfl) rfl
theorem gk_43 : Cond.code Lib.Math.max.name Lib.Math.max.code 2 (some .int) ∈ gt_T := gt_m3 (List.mem_of_getElem? (i := 101) rfl) rfl
def gy_Whole_combine : MethodName := ⟨R_Whole, "combine", "(LGearDesk$Whole;LGearDesk$Whole;II)V"⟩
abbrev gb_Whole_combine : ByteArray := prog_8_method_9_code
theorem gk_44 : Cond.code gy_Whole_combine gb_Whole_combine 11 none ∈ gt_T := gt_m5 (List.mem_of_getElem? (i := 73) rfl) rfl
def gr_Whole_combine : Room := gw_rm 2 86
theorem gm_Whole_combine : gw_Mth gy_Whole_combine gb_Whole_combine 11 none 4 := ⟨gk_44, gk_16, ⟨by decide +kernel, by decide +kernel⟩, by decide +kernel⟩
theorem gd_Whole_combine_0 : decode gb_Whole_combine 0 = .ok (.aload_n 1, 1) := by decide +kernel
theorem gd_Whole_combine_1 : decode gb_Whole_combine 1 = .ok (.getfield 31, 3) := by decide +kernel
theorem gd_Whole_combine_4 : decode gb_Whole_combine 4 = .ok (.aload_n 2, 1) := by decide +kernel
theorem gd_Whole_combine_5 : decode gb_Whole_combine 5 = .ok (.getfield 31, 3) := by decide +kernel
theorem gd_Whole_combine_8 : decode gb_Whole_combine 8 = .ok (.invokestatic 64, 3) := by decide +kernel
theorem gd_Whole_combine_11 : decode gb_Whole_combine 11 = .ok (.istore 5, 2) := by decide +kernel
theorem gd_Whole_combine_13 : decode gb_Whole_combine 13 = .ok (.lconst 0, 1) := by decide +kernel
theorem gd_Whole_combine_14 : decode gb_Whole_combine 14 = .ok (.lstore 6, 2) := by decide +kernel
theorem gd_Whole_combine_16 : decode gb_Whole_combine 16 = .ok (.iconst 0, 1) := by decide +kernel
theorem gd_Whole_combine_17 : decode gb_Whole_combine 17 = .ok (.istore 8, 2) := by decide +kernel
theorem gd_Whole_combine_19 : decode gb_Whole_combine 19 = .ok (.iload 8, 2) := by decide +kernel
theorem gd_Whole_combine_21 : decode gb_Whole_combine 21 = .ok (.iload 5, 2) := by decide +kernel
theorem gd_Whole_combine_23 : decode gb_Whole_combine 23 = .ok (.if_icmp .ge 88, 3) := by decide +kernel
theorem gd_Whole_combine_26 : decode gb_Whole_combine 26 = .ok (.lload 6, 2) := by decide +kernel
theorem gd_Whole_combine_28 : decode gb_Whole_combine 28 = .ok (.lstore 9, 2) := by decide +kernel
theorem gd_Whole_combine_30 : decode gb_Whole_combine 30 = .ok (.lload 9, 2) := by decide +kernel
theorem gd_Whole_combine_32 : decode gb_Whole_combine 32 = .ok (.iload 8, 2) := by decide +kernel
theorem gd_Whole_combine_34 : decode gb_Whole_combine 34 = .ok (.aload_n 1, 1) := by decide +kernel
theorem gd_Whole_combine_35 : decode gb_Whole_combine 35 = .ok (.getfield 31, 3) := by decide +kernel
theorem gd_Whole_combine_38 : decode gb_Whole_combine 38 = .ok (.if_icmp .ge 14, 3) := by decide +kernel
theorem gd_Whole_combine_41 : decode gb_Whole_combine 41 = .ok (.aload_n 1, 1) := by decide +kernel
theorem gd_Whole_combine_42 : decode gb_Whole_combine 42 = .ok (.getfield 9, 3) := by decide +kernel
theorem gd_Whole_combine_45 : decode gb_Whole_combine 45 = .ok (.iload 8, 2) := by decide +kernel
theorem gd_Whole_combine_47 : decode gb_Whole_combine 47 = .ok (.iaload, 1) := by decide +kernel
theorem gd_Whole_combine_48 : decode gb_Whole_combine 48 = .ok (.i2l, 1) := by decide +kernel
theorem gd_Whole_combine_49 : decode gb_Whole_combine 49 = .ok (.goto 4, 3) := by decide +kernel
theorem gd_Whole_combine_52 : decode gb_Whole_combine 52 = .ok (.lconst 0, 1) := by decide +kernel
theorem gd_Whole_combine_53 : decode gb_Whole_combine 53 = .ok (.ladd, 1) := by decide +kernel
theorem gd_Whole_combine_54 : decode gb_Whole_combine 54 = .ok (.lstore 9, 2) := by decide +kernel
theorem gd_Whole_combine_56 : decode gb_Whole_combine 56 = .ok (.lload 9, 2) := by decide +kernel
theorem gd_Whole_combine_58 : decode gb_Whole_combine 58 = .ok (.iload 8, 2) := by decide +kernel
theorem gd_Whole_combine_60 : decode gb_Whole_combine 60 = .ok (.aload_n 2, 1) := by decide +kernel
theorem gd_Whole_combine_61 : decode gb_Whole_combine 61 = .ok (.getfield 31, 3) := by decide +kernel
theorem gd_Whole_combine_64 : decode gb_Whole_combine 64 = .ok (.if_icmp .ge 16, 3) := by decide +kernel
theorem gd_Whole_combine_67 : decode gb_Whole_combine 67 = .ok (.iload_n 3, 1) := by decide +kernel
theorem gd_Whole_combine_68 : decode gb_Whole_combine 68 = .ok (.aload_n 2, 1) := by decide +kernel
theorem gd_Whole_combine_69 : decode gb_Whole_combine 69 = .ok (.getfield 9, 3) := by decide +kernel
theorem gd_Whole_combine_72 : decode gb_Whole_combine 72 = .ok (.iload 8, 2) := by decide +kernel
theorem gd_Whole_combine_74 : decode gb_Whole_combine 74 = .ok (.iaload, 1) := by decide +kernel
theorem gd_Whole_combine_75 : decode gb_Whole_combine 75 = .ok (.imul, 1) := by decide +kernel
theorem gd_Whole_combine_76 : decode gb_Whole_combine 76 = .ok (.i2l, 1) := by decide +kernel
theorem gd_Whole_combine_77 : decode gb_Whole_combine 77 = .ok (.goto 4, 3) := by decide +kernel
theorem gd_Whole_combine_80 : decode gb_Whole_combine 80 = .ok (.lconst 0, 1) := by decide +kernel
theorem gd_Whole_combine_81 : decode gb_Whole_combine 81 = .ok (.ladd, 1) := by decide +kernel
theorem gd_Whole_combine_82 : decode gb_Whole_combine 82 = .ok (.lstore 9, 2) := by decide +kernel
theorem gd_Whole_combine_84 : decode gb_Whole_combine 84 = .ok (.aload_n 0, 1) := by decide +kernel
theorem gd_Whole_combine_85 : decode gb_Whole_combine 85 = .ok (.getfield 9, 3) := by decide +kernel
theorem gd_Whole_combine_88 : decode gb_Whole_combine 88 = .ok (.iload 8, 2) := by decide +kernel
theorem gd_Whole_combine_90 : decode gb_Whole_combine 90 = .ok (.lload 9, 2) := by decide +kernel
theorem gd_Whole_combine_92 : decode gb_Whole_combine 92 = .ok (.ldc2_w 19, 3) := by decide +kernel
theorem gd_Whole_combine_95 : decode gb_Whole_combine 95 = .ok (.land, 1) := by decide +kernel
theorem gd_Whole_combine_96 : decode gb_Whole_combine 96 = .ok (.l2i, 1) := by decide +kernel
theorem gd_Whole_combine_97 : decode gb_Whole_combine 97 = .ok (.iastore, 1) := by decide +kernel
theorem gd_Whole_combine_98 : decode gb_Whole_combine 98 = .ok (.lload 9, 2) := by decide +kernel
theorem gd_Whole_combine_100 : decode gb_Whole_combine 100 = .ok (.bipush 31, 2) := by decide +kernel
theorem gd_Whole_combine_102 : decode gb_Whole_combine 102 = .ok (.lshr, 1) := by decide +kernel
theorem gd_Whole_combine_103 : decode gb_Whole_combine 103 = .ok (.lstore 6, 2) := by decide +kernel
theorem gd_Whole_combine_105 : decode gb_Whole_combine 105 = .ok (.iinc 8 1, 3) := by decide +kernel
theorem gd_Whole_combine_108 : decode gb_Whole_combine 108 = .ok (.goto (-89), 3) := by decide +kernel
theorem gd_Whole_combine_111 : decode gb_Whole_combine 111 = .ok (.lload 6, 2) := by decide +kernel
theorem gd_Whole_combine_113 : decode gb_Whole_combine 113 = .ok (.lconst 0, 1) := by decide +kernel
theorem gd_Whole_combine_114 : decode gb_Whole_combine 114 = .ok (.lcmp, 1) := by decide +kernel
theorem gd_Whole_combine_115 : decode gb_Whole_combine 115 = .ok (.ifCond .le 16, 3) := by decide +kernel
theorem gd_Whole_combine_118 : decode gb_Whole_combine 118 = .ok (.aload_n 0, 1) := by decide +kernel
theorem gd_Whole_combine_119 : decode gb_Whole_combine 119 = .ok (.getfield 9, 3) := by decide +kernel
theorem gd_Whole_combine_122 : decode gb_Whole_combine 122 = .ok (.iload 5, 2) := by decide +kernel
theorem gd_Whole_combine_124 : decode gb_Whole_combine 124 = .ok (.lload 6, 2) := by decide +kernel
theorem gd_Whole_combine_126 : decode gb_Whole_combine 126 = .ok (.l2i, 1) := by decide +kernel
theorem gd_Whole_combine_127 : decode gb_Whole_combine 127 = .ok (.iastore, 1) := by decide +kernel
theorem gd_Whole_combine_128 : decode gb_Whole_combine 128 = .ok (.iinc 5 1, 3) := by decide +kernel
theorem gd_Whole_combine_131 : decode gb_Whole_combine 131 = .ok (.aload_n 0, 1) := by decide +kernel
theorem gd_Whole_combine_132 : decode gb_Whole_combine 132 = .ok (.iload 5, 2) := by decide +kernel
theorem gd_Whole_combine_134 : decode gb_Whole_combine 134 = .ok (.iload 4, 2) := by decide +kernel
theorem gd_Whole_combine_136 : decode gb_Whole_combine 136 = .ok (.invokevirtual 27, 3) := by decide +kernel
theorem gd_Whole_combine_139 : decode gb_Whole_combine 139 = .ok (.return_, 1) := by decide +kernel
def gf_Whole_combine_b81 (F : Nat) (z : gw_Sh) (rc_19 : gw_St → Nat → Nat → Nat → Int32 → Int32 → Int32 → Int64 → Int32 → Option gw_St) (u : gw_St) (t0 : Nat) (t1 : Nat) (t2 : Nat) (x3 : Int32) (x4 : Int32) (x5 : Int32) (x8 : Int32) (sy0 : Int64) (sy1 : Int64) : Option gw_St :=
  gf_nm (sy0 + sy1) fun a1 => gf_nn (u.2.2 t0 0) fun q3 => if (x8 < 0 ∨ z.2.2 q3 ≤ (x8).toNatClampNeg) then none else gf_nm (gw_wi u q3 (x8).toNatClampNeg (((a1 &&& (2147483647 : Int64))).toInt32)) fun u6 => gf_nm (a1 >>> (((31 : Int32)).toInt64 &&& 63)) fun a8 => gf_nm (x8 + 1) fun a10 => rc_19 u6 t0 t1 t2 x3 x4 x5 a8 a10
def gf_Whole_combine_b53 (F : Nat) (z : gw_Sh) (rc_19 : gw_St → Nat → Nat → Nat → Int32 → Int32 → Int32 → Int64 → Int32 → Option gw_St) (u : gw_St) (t0 : Nat) (t1 : Nat) (t2 : Nat) (x3 : Int32) (x4 : Int32) (x5 : Int32) (x8 : Int32) (sy0 : Int64) (sy1 : Int64) : Option gw_St :=
  gf_nm (sy0 + sy1) fun a12 => if (u.1 t2 1) ≤ x8 then (gf_Whole_combine_b81 F z rc_19 u t0 t1 t2 x3 x4 x5 x8 a12 0) else (gf_nn (u.2.2 t2 0) fun q15 => if (x8 < 0 ∨ z.2.2 q15 ≤ (x8).toNatClampNeg) then none else gf_Whole_combine_b81 F z rc_19 u t0 t1 t2 x3 x4 x5 x8 a12 (((x3 * (u.1 q15 (x8).toNatClampNeg))).toInt64))
def gf_Whole_combine_b131 (F : Nat) (z : gw_Sh)  (u : gw_St) (t0 : Nat) (x4 : Int32) (x5 : Int32) : Option gw_St :=
  (gf_Whole_settle F z u t0 x5 x4).bind fun u18 => some u18
def gf_Whole_combine_S19 (F : Nat) (z : gw_Sh)  (rc_19 : gw_St → Nat → Nat → Nat → Int32 → Int32 → Int32 → Int64 → Int32 → Option gw_St) (u : gw_St) (t0 : Nat) (t1 : Nat) (t2 : Nat) (x3 : Int32) (x4 : Int32) (x5 : Int32) (y6 : Int64) (x8 : Int32) : Option gw_St :=
  if x5 ≤ x8 then (if (lg_cmp y6 (0 : Int64)) ≤ 0 then (gf_Whole_combine_b131 F z  u t0 x4 x5) else (gf_nn (u.2.2 t0 0) fun q22 => if (x5 < 0 ∨ z.2.2 q22 ≤ (x5).toNatClampNeg) then none else gf_nm (gw_wi u q22 (x5).toNatClampNeg ((y6).toInt32)) fun u25 => gf_nm (x5 + 1) fun a27 => gf_Whole_combine_b131 F z  u25 t0 x4 a27)) else (if (u.1 t1 1) ≤ x8 then (gf_Whole_combine_b53 F z rc_19 u t0 t1 t2 x3 x4 x5 x8 y6 0) else (gf_nn (u.2.2 t1 0) fun q30 => if (x8 < 0 ∨ z.2.2 q30 ≤ (x8).toNatClampNeg) then none else gf_Whole_combine_b53 F z rc_19 u t0 t1 t2 x3 x4 x5 x8 y6 (((u.1 q30 (x8).toNatClampNeg)).toInt64)))
def gf_Whole_combine_L19 (F : Nat) (z : gw_Sh)  : Nat → gw_St → Nat → Nat → Nat → Int32 → Int32 → Int32 → Int64 → Int32 → Option gw_St
  | 0 => fun _ _ _ _ _ _ _ _ _ => none
  | n + 1 => fun u t0 t1 t2 x3 x4 x5 y6 x8 => gf_Whole_combine_S19 F z  (gf_Whole_combine_L19 F z  n) u t0 t1 t2 x3 x4 x5 y6 x8
def gf_Whole_combine_b0 (F : Nat) (z : gw_Sh)  (u : gw_St) (t0 : Nat) (t1 : Nat) (t2 : Nat) (x3 : Int32) (x4 : Int32) : Option gw_St :=
  gf_nm (if (u.1 t1 1) < (u.1 t2 1) then (u.1 t2 1) else (u.1 t1 1)) fun a33 => gf_Whole_combine_L19 F z  F u t0 t1 t2 x3 x4 a33 0 0
def gf_Whole_combine (F : Nat) (z : gw_Sh) (u : gw_St) (t0 : Nat) (t1 : Nat) (t2 : Nat) (x3 : Int32) (x4 : Int32) : Option gw_St := gf_Whole_combine_b0 F z  u t0 t1 t2 x3 x4
set_option maxHeartbeats 4000000 in
set_option maxRecDepth 20000 in
theorem gx_Whole_combine_b81 {p : Program} {l : Launch} {e : Env} {s : State} {m : MethodId} {args : Array Value} {below : List Frame} {meth : Method} {c : Code} {D : va_G} {cA : Nat → ClassId} {hs : Nat → Nat} {z : gw_Sh} (F : Nat) {r0 : gw_St} (C : gw_Cx p s m args c gb_Whole_combine 11 R_Whole D cA) (hr : meth.sig.returnType = none) (hk : meth.locks = false) {rc_19 : gw_St → Nat → Nat → Nat → Int32 → Int32 → Int32 → Int64 → Int32 → Option gw_St} (k_19 : ∀ (u : gw_St) (t0 : Nat) (t1 : Nat) (t2 : Nat) (x3 : Int32) (x4 : Int32) (x5 : Int32) (y6 : Int64) (x8 : Int32) (H : Heap) (locs : List Loc) (ls : Array Slot), gw_ok z t0 8 → gw_ok z t1 8 → gw_ok z t2 8 → gw_Wx D cA hs z s u H locs → lv_has ls 11 [(0, .ref (hs t0)), (1, .ref (hs t1)), (2, .ref (hs t2)), (3, .int x3), (4, .int x4), (5, .int x5), (6, .long y6), (8, .int x8)] → rc_19 u t0 t1 t2 x3 x4 x5 y6 x8 = some r0 → gw_Gv p l e gr_Whole_combine s m args below meth c D cA hs z r0 H locs ls 19 []) (u : gw_St) (t0 : Nat) (t1 : Nat) (t2 : Nat) (x3 : Int32) (x4 : Int32) (x5 : Int32) (x8 : Int32) (sy0 : Int64) (sy1 : Int64) (o_t0 : gw_ok z t0 8) (o_t1 : gw_ok z t1 8) (o_t2 : gw_ok z t2 8) {H : Heap} {locs : List Loc} {ls : Array Slot} (hW : gw_Wx D cA hs z s u H locs) (hl : lv_has ls 11 [(0, .ref (hs t0)), (1, .ref (hs t1)), (2, .ref (hs t2)), (3, .int x3), (4, .int x4), (5, .int x5), (8, .int x8)]) (h : gf_Whole_combine_b81 F z rc_19  u t0 t1 t2 x3 x4 x5 x8 sy0 sy1 = some r0) : gw_Gv p l e gr_Whole_combine s m args below meth c D cA hs z r0 H locs ls 81 [.long sy1, .long sy0] := by
  obtain ⟨hx, hb, hml, hown, hts, hK⟩ := id C
  unfold gf_Whole_combine_b81 at h
  refine lv_ladd hx hb gd_Whole_combine_81 ?_
  refine lv_topl (fun a1 e2 => ?_)
  have h := gf_nm_ok e2 h
  refine lv_lstore (lv' := [(9, .long a1), (0, .ref (hs t0)), (1, .ref (hs t1)), (2, .ref (hs t2)), (3, .int x3), (4, .int x4), (5, .int x5), (8, .int x8)]) hx hb gd_Whole_combine_82 hl (by decide) rfl (fun ls hl => ?_)
  refine lv_aload_n hx hb gd_Whole_combine_84 rfl (lv_at hl 1 rfl) ?_
  obtain ⟨q3, e4, h⟩ := gf_nn_ok h
  refine gw_getr (k := 0) (ty := 10) (ref := R_Whole) C hW o_t0 (by decide) rfl gi_Whole rfl (by decide) rfl rfl gk_15 gd_Whole_combine_85 e4 ?_
  have o_q3 := hW.ref (d := 10) o_t0 e4 rfl
  refine lv_iload hx hb gd_Whole_combine_88 (lv_at hl 7 rfl) ?_
  refine lv_lload hx hb gd_Whole_combine_90 (lv_at hl 0 rfl) ?_
  refine lv_ldc2 (v := 2147483647) hx hb hown (hts _ gk_23) gd_Whole_combine_92 ?_
  refine lv_land hx hb gd_Whole_combine_95 ?_
  refine lv_l2i hx hb gd_Whole_combine_96 rfl ?_
  obtain ⟨g5, h⟩ := gf_if_ok h
  refine gw_iast C hW o_q3 g5 gd_Whole_combine_97 (fun u6 H locs e7 hW => ?_)
  have h := gf_nm_ok e7 h
  refine lv_lload hx hb gd_Whole_combine_98 (lv_at hl 0 rfl) ?_
  refine lv_bipush (v := 31) hx hb gd_Whole_combine_100 (by decide) ?_
  refine lv_lshr hx hb gd_Whole_combine_102 rfl ?_
  refine lv_topl (fun a8 e9 => ?_)
  have h := gf_nm_ok e9 h
  refine lv_lstore (lv' := [(6, .long a8), (9, .long a1), (0, .ref (hs t0)), (1, .ref (hs t1)), (2, .ref (hs t2)), (3, .int x3), (4, .int x4), (5, .int x5), (8, .int x8)]) hx hb gd_Whole_combine_103 hl (by decide) rfl (fun ls hl => ?_)
  obtain ⟨a10, e11⟩ : ∃ y : Int32, y = x8 + 1 := ⟨_, rfl⟩
  have h := gf_nm_ok e11 h
  refine lv_iinc (v := a10) (lv' := [(8, .int a10), (6, .long a8), (9, .long a1), (0, .ref (hs t0)), (1, .ref (hs t1)), (2, .ref (hs t2)), (3, .int x3), (4, .int x4), (5, .int x5)]) hx hb gd_Whole_combine_105 hl (k := 8) rfl (by rw [e11]; rfl) (by decide) rfl (fun ls hl => ?_)
  refine lv_goto (tgt := 19) hx hb gd_Whole_combine_108 (by decide) ?_
  exact k_19 u6 t0 t1 t2 x3 x4 x5 a8 a10 _ _ _ o_t0 o_t1 o_t2 hW (lv_sub hl [3, 4, 5, 6, 7, 8, 1, 0] rfl) h

set_option maxHeartbeats 4000000 in
set_option maxRecDepth 20000 in
theorem gx_Whole_combine_b53 {p : Program} {l : Launch} {e : Env} {s : State} {m : MethodId} {args : Array Value} {below : List Frame} {meth : Method} {c : Code} {D : va_G} {cA : Nat → ClassId} {hs : Nat → Nat} {z : gw_Sh} (F : Nat) {r0 : gw_St} (C : gw_Cx p s m args c gb_Whole_combine 11 R_Whole D cA) (hr : meth.sig.returnType = none) (hk : meth.locks = false) {rc_19 : gw_St → Nat → Nat → Nat → Int32 → Int32 → Int32 → Int64 → Int32 → Option gw_St} (k_19 : ∀ (u : gw_St) (t0 : Nat) (t1 : Nat) (t2 : Nat) (x3 : Int32) (x4 : Int32) (x5 : Int32) (y6 : Int64) (x8 : Int32) (H : Heap) (locs : List Loc) (ls : Array Slot), gw_ok z t0 8 → gw_ok z t1 8 → gw_ok z t2 8 → gw_Wx D cA hs z s u H locs → lv_has ls 11 [(0, .ref (hs t0)), (1, .ref (hs t1)), (2, .ref (hs t2)), (3, .int x3), (4, .int x4), (5, .int x5), (6, .long y6), (8, .int x8)] → rc_19 u t0 t1 t2 x3 x4 x5 y6 x8 = some r0 → gw_Gv p l e gr_Whole_combine s m args below meth c D cA hs z r0 H locs ls 19 []) (u : gw_St) (t0 : Nat) (t1 : Nat) (t2 : Nat) (x3 : Int32) (x4 : Int32) (x5 : Int32) (x8 : Int32) (sy0 : Int64) (sy1 : Int64) (o_t0 : gw_ok z t0 8) (o_t1 : gw_ok z t1 8) (o_t2 : gw_ok z t2 8) {H : Heap} {locs : List Loc} {ls : Array Slot} (hW : gw_Wx D cA hs z s u H locs) (hl : lv_has ls 11 [(0, .ref (hs t0)), (1, .ref (hs t1)), (2, .ref (hs t2)), (3, .int x3), (4, .int x4), (5, .int x5), (8, .int x8)]) (h : gf_Whole_combine_b53 F z rc_19  u t0 t1 t2 x3 x4 x5 x8 sy0 sy1 = some r0) : gw_Gv p l e gr_Whole_combine s m args below meth c D cA hs z r0 H locs ls 53 [.long sy1, .long sy0] := by
  obtain ⟨hx, hb, hml, hown, hts, hK⟩ := id C
  unfold gf_Whole_combine_b53 at h
  refine lv_ladd hx hb gd_Whole_combine_53 ?_
  refine lv_topl (fun a12 e13 => ?_)
  have h := gf_nm_ok e13 h
  refine lv_lstore (lv' := [(9, .long a12), (0, .ref (hs t0)), (1, .ref (hs t1)), (2, .ref (hs t2)), (3, .int x3), (4, .int x4), (5, .int x5), (8, .int x8)]) hx hb gd_Whole_combine_54 hl (by decide) rfl (fun ls hl => ?_)
  refine lv_lload hx hb gd_Whole_combine_56 (lv_at hl 0 rfl) ?_
  refine lv_iload hx hb gd_Whole_combine_58 (lv_at hl 7 rfl) ?_
  refine lv_aload_n hx hb gd_Whole_combine_60 rfl (lv_at hl 3 rfl) ?_
  refine gw_geti (k := 1) (ref := R_Whole) C hW o_t2 (by decide) rfl gi_Whole rfl (by decide) rfl rfl gk_14 gd_Whole_combine_61 ?_
  refine lv_icmp_ge (tgt := 80) hx hb gd_Whole_combine_64 (by decide) (fun c14 => ?_) (fun c14 => ?_)
  · have h := gf_t c14 h
    refine lv_lconst (v := 0) hx hb gd_Whole_combine_80 (by decide) ?_
    exact gx_Whole_combine_b81 F C hr hk k_19 u t0 t1 t2 x3 x4 x5 x8 a12 0 o_t0 o_t1 o_t2 hW (lv_sub hl [1, 2, 3, 4, 5, 6, 7] rfl) h
  · have h := gf_f c14 h
    refine lv_iload_n hx hb gd_Whole_combine_67 rfl (lv_at hl 4 rfl) ?_
    refine lv_aload_n hx hb gd_Whole_combine_68 rfl (lv_at hl 3 rfl) ?_
    obtain ⟨q15, e16, h⟩ := gf_nn_ok h
    refine gw_getr (k := 0) (ty := 10) (ref := R_Whole) C hW o_t2 (by decide) rfl gi_Whole rfl (by decide) rfl rfl gk_15 gd_Whole_combine_69 e16 ?_
    have o_q15 := hW.ref (d := 10) o_t2 e16 rfl
    refine lv_iload hx hb gd_Whole_combine_72 (lv_at hl 7 rfl) ?_
    obtain ⟨g17, h⟩ := gf_if_ok h
    refine gw_iald C hW o_q15 g17 gd_Whole_combine_74 ?_
    refine lv_imul hx hb gd_Whole_combine_75 ?_
    refine lv_i2l hx hb gd_Whole_combine_76 rfl ?_
    refine lv_goto (tgt := 81) hx hb gd_Whole_combine_77 (by decide) ?_
    exact gx_Whole_combine_b81 F C hr hk k_19 u t0 t1 t2 x3 x4 x5 x8 a12 (((x3 * (u.1 q15 (x8).toNatClampNeg))).toInt64) o_t0 o_t1 o_t2 hW (lv_sub hl [1, 2, 3, 4, 5, 6, 7] rfl) h

set_option maxHeartbeats 4000000 in
set_option maxRecDepth 20000 in
theorem gx_Whole_combine_b131 {p : Program} {l : Launch} {e : Env} {s : State} {m : MethodId} {args : Array Value} {below : List Frame} {meth : Method} {c : Code} {D : va_G} {cA : Nat → ClassId} {hs : Nat → Nat} {z : gw_Sh} (F : Nat) {r0 : gw_St} (C : gw_Cx p s m args c gb_Whole_combine 11 R_Whole D cA) (hr : meth.sig.returnType = none) (hk : meth.locks = false) (u : gw_St) (t0 : Nat) (x4 : Int32) (x5 : Int32) (o_t0 : gw_ok z t0 8) {H : Heap} {locs : List Loc} {ls : Array Slot} (hW : gw_Wx D cA hs z s u H locs) (hl : lv_has ls 11 [(0, .ref (hs t0)), (4, .int x4), (5, .int x5)]) (h : gf_Whole_combine_b131 F z   u t0 x4 x5 = some r0) : gw_Gv p l e gr_Whole_combine s m args below meth c D cA hs z r0 H locs ls 131 [] := by
  obtain ⟨hx, hb, hml, hown, hts, hK⟩ := id C
  unfold gf_Whole_combine_b131 at h
  refine lv_aload_n hx hb gd_Whole_combine_131 rfl (lv_at hl 0 rfl) ?_
  refine lv_iload hx hb gd_Whole_combine_132 (lv_at hl 2 rfl) ?_
  refine lv_iload hx hb gd_Whole_combine_134 (lv_at hl 1 rfl) ?_
  obtain ⟨u18, d19, h⟩ := gf_bd_ok h
  refine gw_callVv (K := R_Whole) (As := [.int x5, .int x4]) (rest := []) C hW (fun _ h => Or.inr h) hl.1 gm_Whole_settle (gc_Whole_settle l F o_t0 d19 _) gk_20 gk_21 gk_22 o_t0 (by decide) rfl rfl rfl ⟨Nat.le_of_ble_eq_true rfl, Nat.le_of_ble_eq_true rfl⟩ ⟨Nat.zero_le _, Nat.zero_le _⟩ rfl rfl (Nat.le_of_ble_eq_true rfl) gd_Whole_combine_136 (fun H locs hW => ?_)
  obtain rfl := Option.some.inj h
  exact gw_vret C hW hr hk gd_Whole_combine_139

set_option maxHeartbeats 4000000 in
set_option maxRecDepth 20000 in
theorem gx_Whole_combine_S19 {p : Program} {l : Launch} {e : Env} {s : State} {m : MethodId} {args : Array Value} {below : List Frame} {meth : Method} {c : Code} {D : va_G} {cA : Nat → ClassId} {hs : Nat → Nat} {z : gw_Sh} (F : Nat) {r0 : gw_St} (C : gw_Cx p s m args c gb_Whole_combine 11 R_Whole D cA) (hr : meth.sig.returnType = none) (hk : meth.locks = false) {rc_19 : gw_St → Nat → Nat → Nat → Int32 → Int32 → Int32 → Int64 → Int32 → Option gw_St} (k_19 : ∀ (u : gw_St) (t0 : Nat) (t1 : Nat) (t2 : Nat) (x3 : Int32) (x4 : Int32) (x5 : Int32) (y6 : Int64) (x8 : Int32) (H : Heap) (locs : List Loc) (ls : Array Slot), gw_ok z t0 8 → gw_ok z t1 8 → gw_ok z t2 8 → gw_Wx D cA hs z s u H locs → lv_has ls 11 [(0, .ref (hs t0)), (1, .ref (hs t1)), (2, .ref (hs t2)), (3, .int x3), (4, .int x4), (5, .int x5), (6, .long y6), (8, .int x8)] → rc_19 u t0 t1 t2 x3 x4 x5 y6 x8 = some r0 → gw_Gv p l e gr_Whole_combine s m args below meth c D cA hs z r0 H locs ls 19 []) (u : gw_St) (t0 : Nat) (t1 : Nat) (t2 : Nat) (x3 : Int32) (x4 : Int32) (x5 : Int32) (y6 : Int64) (x8 : Int32) (o_t0 : gw_ok z t0 8) (o_t1 : gw_ok z t1 8) (o_t2 : gw_ok z t2 8) {H : Heap} {locs : List Loc} {ls : Array Slot} (hW : gw_Wx D cA hs z s u H locs) (hl : lv_has ls 11 [(0, .ref (hs t0)), (1, .ref (hs t1)), (2, .ref (hs t2)), (3, .int x3), (4, .int x4), (5, .int x5), (6, .long y6), (8, .int x8)]) (h : gf_Whole_combine_S19 F z  rc_19 u t0 t1 t2 x3 x4 x5 y6 x8 = some r0) : gw_Gv p l e gr_Whole_combine s m args below meth c D cA hs z r0 H locs ls 19 [] := by
  obtain ⟨hx, hb, hml, hown, hts, hK⟩ := id C
  unfold gf_Whole_combine_S19 at h
  refine lv_iload hx hb gd_Whole_combine_19 (lv_at hl 7 rfl) ?_
  refine lv_iload hx hb gd_Whole_combine_21 (lv_at hl 5 rfl) ?_
  refine lv_icmp_ge (tgt := 111) hx hb gd_Whole_combine_23 (by decide) (fun c20 => ?_) (fun c20 => ?_)
  · have h := gf_t c20 h
    refine lv_lload hx hb gd_Whole_combine_111 (lv_at hl 6 rfl) ?_
    refine lv_lconst (v := 0) hx hb gd_Whole_combine_113 (by decide) ?_
    refine W.lcmp hx hb gd_Whole_combine_114 ?_
    refine lv_if_le (tgt := 131) hx hb gd_Whole_combine_115 (by decide) (fun c21 => ?_) (fun c21 => ?_)
    · have h := gf_t c21 h
      exact gx_Whole_combine_b131 F C hr hk  u t0 x4 x5 o_t0 hW (lv_sub hl [0, 4, 5] rfl) h
    · have h := gf_f c21 h
      refine lv_aload_n hx hb gd_Whole_combine_118 rfl (lv_at hl 0 rfl) ?_
      obtain ⟨q22, e23, h⟩ := gf_nn_ok h
      refine gw_getr (k := 0) (ty := 10) (ref := R_Whole) C hW o_t0 (by decide) rfl gi_Whole rfl (by decide) rfl rfl gk_15 gd_Whole_combine_119 e23 ?_
      have o_q22 := hW.ref (d := 10) o_t0 e23 rfl
      refine lv_iload hx hb gd_Whole_combine_122 (lv_at hl 5 rfl) ?_
      refine lv_lload hx hb gd_Whole_combine_124 (lv_at hl 6 rfl) ?_
      refine lv_l2i hx hb gd_Whole_combine_126 rfl ?_
      obtain ⟨g24, h⟩ := gf_if_ok h
      refine gw_iast C hW o_q22 g24 gd_Whole_combine_127 (fun u25 H locs e26 hW => ?_)
      have h := gf_nm_ok e26 h
      obtain ⟨a27, e28⟩ : ∃ y : Int32, y = x5 + 1 := ⟨_, rfl⟩
      have h := gf_nm_ok e28 h
      refine lv_iinc (v := a27) (lv' := [(5, .int a27), (0, .ref (hs t0)), (1, .ref (hs t1)), (2, .ref (hs t2)), (3, .int x3), (4, .int x4), (6, .long y6), (8, .int x8)]) hx hb gd_Whole_combine_128 hl (k := 5) rfl (by rw [e28]; rfl) (by decide) rfl (fun ls hl => ?_)
      exact gx_Whole_combine_b131 F C hr hk  u25 t0 x4 a27 o_t0 hW (lv_sub hl [1, 5, 0] rfl) h
  · have h := gf_f c20 h
    refine lv_lload hx hb gd_Whole_combine_26 (lv_at hl 6 rfl) ?_
    refine lv_lstore (lv' := [(9, .long y6), (0, .ref (hs t0)), (1, .ref (hs t1)), (2, .ref (hs t2)), (3, .int x3), (4, .int x4), (5, .int x5), (6, .long y6), (8, .int x8)]) hx hb gd_Whole_combine_28 hl (by decide) rfl (fun ls hl => ?_)
    refine lv_lload hx hb gd_Whole_combine_30 (lv_at hl 0 rfl) ?_
    refine lv_iload hx hb gd_Whole_combine_32 (lv_at hl 8 rfl) ?_
    refine lv_aload_n hx hb gd_Whole_combine_34 rfl (lv_at hl 2 rfl) ?_
    refine gw_geti (k := 1) (ref := R_Whole) C hW o_t1 (by decide) rfl gi_Whole rfl (by decide) rfl rfl gk_14 gd_Whole_combine_35 ?_
    refine lv_icmp_ge (tgt := 52) hx hb gd_Whole_combine_38 (by decide) (fun c29 => ?_) (fun c29 => ?_)
    · have h := gf_t c29 h
      refine lv_lconst (v := 0) hx hb gd_Whole_combine_52 (by decide) ?_
      exact gx_Whole_combine_b53 F C hr hk k_19 u t0 t1 t2 x3 x4 x5 x8 y6 0 o_t0 o_t1 o_t2 hW (lv_sub hl [1, 2, 3, 4, 5, 6, 8] rfl) h
    · have h := gf_f c29 h
      refine lv_aload_n hx hb gd_Whole_combine_41 rfl (lv_at hl 2 rfl) ?_
      obtain ⟨q30, e31, h⟩ := gf_nn_ok h
      refine gw_getr (k := 0) (ty := 10) (ref := R_Whole) C hW o_t1 (by decide) rfl gi_Whole rfl (by decide) rfl rfl gk_15 gd_Whole_combine_42 e31 ?_
      have o_q30 := hW.ref (d := 10) o_t1 e31 rfl
      refine lv_iload hx hb gd_Whole_combine_45 (lv_at hl 8 rfl) ?_
      obtain ⟨g32, h⟩ := gf_if_ok h
      refine gw_iald C hW o_q30 g32 gd_Whole_combine_47 ?_
      refine lv_i2l hx hb gd_Whole_combine_48 rfl ?_
      refine lv_goto (tgt := 53) hx hb gd_Whole_combine_49 (by decide) ?_
      exact gx_Whole_combine_b53 F C hr hk k_19 u t0 t1 t2 x3 x4 x5 x8 y6 (((u.1 q30 (x8).toNatClampNeg)).toInt64) o_t0 o_t1 o_t2 hW (lv_sub hl [1, 2, 3, 4, 5, 6, 8] rfl) h
set_option maxHeartbeats 4000000 in
set_option maxRecDepth 20000 in
theorem gx_Whole_combine_L19 {p : Program} {l : Launch} {e : Env} {s : State} {m : MethodId} {args : Array Value} {below : List Frame} {meth : Method} {c : Code} {D : va_G} {cA : Nat → ClassId} {hs : Nat → Nat} {z : gw_Sh} (F : Nat) {r0 : gw_St} (C : gw_Cx p s m args c gb_Whole_combine 11 R_Whole D cA) (hr : meth.sig.returnType = none) (hk : meth.locks = false) : ∀ (n : Nat), ∀ (u : gw_St) (t0 : Nat) (t1 : Nat) (t2 : Nat) (x3 : Int32) (x4 : Int32) (x5 : Int32) (y6 : Int64) (x8 : Int32) (H : Heap) (locs : List Loc) (ls : Array Slot), gw_ok z t0 8 → gw_ok z t1 8 → gw_ok z t2 8 → gw_Wx D cA hs z s u H locs → lv_has ls 11 [(0, .ref (hs t0)), (1, .ref (hs t1)), (2, .ref (hs t2)), (3, .int x3), (4, .int x4), (5, .int x5), (6, .long y6), (8, .int x8)] → gf_Whole_combine_L19 F z  n u t0 t1 t2 x3 x4 x5 y6 x8 = some r0 → gw_Gv p l e gr_Whole_combine s m args below meth c D cA hs z r0 H locs ls 19 [] := by
  intro n
  induction n with
  | zero =>
    intro u t0 t1 t2 x3 x4 x5 y6 x8 H locs ls o_t0 o_t1 o_t2 hW hl h
    cases h
  | succ n ih =>
    intro u t0 t1 t2 x3 x4 x5 y6 x8 H locs ls o_t0 o_t1 o_t2 hW hl h
    exact gx_Whole_combine_S19 F C hr hk  ih u t0 t1 t2 x3 x4 x5 y6 x8 o_t0 o_t1 o_t2 hW hl h

set_option maxHeartbeats 4000000 in
set_option maxRecDepth 20000 in
theorem gx_Whole_combine_b0 {p : Program} {l : Launch} {e : Env} {s : State} {m : MethodId} {args : Array Value} {below : List Frame} {meth : Method} {c : Code} {D : va_G} {cA : Nat → ClassId} {hs : Nat → Nat} {z : gw_Sh} (F : Nat) {r0 : gw_St} (C : gw_Cx p s m args c gb_Whole_combine 11 R_Whole D cA) (hr : meth.sig.returnType = none) (hk : meth.locks = false) (u : gw_St) (t0 : Nat) (t1 : Nat) (t2 : Nat) (x3 : Int32) (x4 : Int32) (o_t0 : gw_ok z t0 8) (o_t1 : gw_ok z t1 8) (o_t2 : gw_ok z t2 8) {H : Heap} {locs : List Loc} {ls : Array Slot} (hW : gw_Wx D cA hs z s u H locs) (hl : lv_has ls 11 [(0, .ref (hs t0)), (1, .ref (hs t1)), (2, .ref (hs t2)), (3, .int x3), (4, .int x4)]) (h : gf_Whole_combine_b0 F z   u t0 t1 t2 x3 x4 = some r0) : gw_Gv p l e gr_Whole_combine s m args below meth c D cA hs z r0 H locs ls 0 [] := by
  obtain ⟨hx, hb, hml, hown, hts, hK⟩ := id C
  unfold gf_Whole_combine_b0 at h
  refine lv_aload_n hx hb gd_Whole_combine_0 rfl (lv_at hl 1 rfl) ?_
  refine gw_geti (k := 1) (ref := R_Whole) C hW o_t1 (by decide) rfl gi_Whole rfl (by decide) rfl rfl gk_14 gd_Whole_combine_1 ?_
  refine lv_aload_n hx hb gd_Whole_combine_4 rfl (lv_at hl 2 rfl) ?_
  refine gw_geti (k := 1) (ref := R_Whole) C hW o_t2 (by decide) rfl gi_Whole rfl (by decide) rfl rfl gk_14 gd_Whole_combine_5 ?_
  refine va_mmax hx hb (hml.trans hl.1.symm) hown (hts _ gk_41) (hts _ gk_42) (hts _ gk_26) (hts _ gk_43) (Nat.le_of_ble_eq_true rfl) (Nat.le_of_ble_eq_true rfl) (Nat.zero_le _) (Nat.zero_le _) gd_Whole_combine_8 ?_
  refine lv_topi (fun a33 e34 => ?_)
  have h := gf_nm_ok e34 h
  refine lv_istore (lv' := [(5, .int a33), (0, .ref (hs t0)), (1, .ref (hs t1)), (2, .ref (hs t2)), (3, .int x3), (4, .int x4)]) hx hb gd_Whole_combine_11 hl (by decide) rfl (fun ls hl => ?_)
  refine lv_lconst (v := 0) hx hb gd_Whole_combine_13 (by decide) ?_
  refine lv_lstore (lv' := [(6, .long 0), (5, .int a33), (0, .ref (hs t0)), (1, .ref (hs t1)), (2, .ref (hs t2)), (3, .int x3), (4, .int x4)]) hx hb gd_Whole_combine_14 hl (by decide) rfl (fun ls hl => ?_)
  refine lv_iconst (v := 0) hx hb gd_Whole_combine_16 (by decide) ?_
  refine lv_istore (lv' := [(8, .int 0), (6, .long 0), (5, .int a33), (0, .ref (hs t0)), (1, .ref (hs t1)), (2, .ref (hs t2)), (3, .int x3), (4, .int x4)]) hx hb gd_Whole_combine_17 hl (by decide) rfl (fun ls hl => ?_)
  exact gx_Whole_combine_L19 F C hr hk  F u t0 t1 t2 x3 x4 a33 0 0 _ _ _ o_t0 o_t1 o_t2 hW (lv_sub hl [3, 4, 5, 6, 7, 2, 1, 0] rfl) h

set_option maxRecDepth 20000 in
theorem gc_Whole_combine (l : Launch) {D : va_G} {cA : Nat → ClassId} {hs : Nat → Nat} {z : gw_Sh} (F : Nat) {u : gw_St} {r0 : gw_St} {t0 : Nat} {t1 : Nat} {t2 : Nat} {x3 : Int32} {x4 : Int32} (o_t0 : gw_ok z t0 8) (o_t1 : gw_ok z t1 8) (o_t2 : gw_ok z t2 8) (h : gf_Whole_combine F z u t0 t1 t2 x3 x4 = some r0) (sz : Nat) : gw_Mv l gy_Whole_combine gb_Whole_combine 11 none gr_Whole_combine [.ref (hs t0), .ref (hs t1), .ref (hs t2), .int x3, .int x4] D cA hs z u sz r0 := by
  refine gw_enter (by decide) (Nat.le_of_ble_eq_true rfl) ?_
  intro p e s m below meth c ls hsz C hW hr hk _ hl
  subst hsz
  exact gx_Whole_combine_b0 F C hr hk u t0 t1 t2 x3 x4 o_t0 o_t1 o_t2 hW (lv_sub hl [0, 1, 2, 3, 4] rfl) h
-- GearDesk$Whole.isShorter(LGearDesk$Whole;LGearDesk$Whole;)Z
def gy_Whole_isShorter : MethodName := ⟨R_Whole, "isShorter", "(LGearDesk$Whole;LGearDesk$Whole;)Z"⟩
abbrev gb_Whole_isShorter : ByteArray := prog_8_method_8_code
theorem gk_45 : Cond.code gy_Whole_isShorter gb_Whole_isShorter 3 (some .boolean) ∈ gt_T := gt_m5 (List.mem_of_getElem? (i := 77) rfl) rfl
def gr_Whole_isShorter : Room := gw_rm 1 64
theorem gm_Whole_isShorter : gw_Mth gy_Whole_isShorter gb_Whole_isShorter 3 (some .boolean) 2 := ⟨gk_45, gk_16, ⟨by decide +kernel, by decide +kernel⟩, by decide +kernel⟩
theorem gd_Whole_isShorter_0 : decode gb_Whole_isShorter 0 = .ok (.aload_n 0, 1) := by decide +kernel
theorem gd_Whole_isShorter_1 : decode gb_Whole_isShorter 1 = .ok (.getfield 31, 3) := by decide +kernel
theorem gd_Whole_isShorter_4 : decode gb_Whole_isShorter 4 = .ok (.aload_n 1, 1) := by decide +kernel
theorem gd_Whole_isShorter_5 : decode gb_Whole_isShorter 5 = .ok (.getfield 31, 3) := by decide +kernel
theorem gd_Whole_isShorter_8 : decode gb_Whole_isShorter 8 = .ok (.if_icmp .eq 20, 3) := by decide +kernel
theorem gd_Whole_isShorter_11 : decode gb_Whole_isShorter 11 = .ok (.aload_n 0, 1) := by decide +kernel
theorem gd_Whole_isShorter_12 : decode gb_Whole_isShorter 12 = .ok (.getfield 31, 3) := by decide +kernel
theorem gd_Whole_isShorter_15 : decode gb_Whole_isShorter 15 = .ok (.aload_n 1, 1) := by decide +kernel
theorem gd_Whole_isShorter_16 : decode gb_Whole_isShorter 16 = .ok (.getfield 31, 3) := by decide +kernel
theorem gd_Whole_isShorter_19 : decode gb_Whole_isShorter 19 = .ok (.if_icmp .ge 7, 3) := by decide +kernel
theorem gd_Whole_isShorter_22 : decode gb_Whole_isShorter 22 = .ok (.iconst 1, 1) := by decide +kernel
theorem gd_Whole_isShorter_23 : decode gb_Whole_isShorter 23 = .ok (.goto 4, 3) := by decide +kernel
theorem gd_Whole_isShorter_26 : decode gb_Whole_isShorter 26 = .ok (.iconst 0, 1) := by decide +kernel
theorem gd_Whole_isShorter_27 : decode gb_Whole_isShorter 27 = .ok (.ireturn, 1) := by decide +kernel
theorem gd_Whole_isShorter_28 : decode gb_Whole_isShorter 28 = .ok (.aload_n 0, 1) := by decide +kernel
theorem gd_Whole_isShorter_29 : decode gb_Whole_isShorter 29 = .ok (.getfield 31, 3) := by decide +kernel
theorem gd_Whole_isShorter_32 : decode gb_Whole_isShorter 32 = .ok (.iconst 1, 1) := by decide +kernel
theorem gd_Whole_isShorter_33 : decode gb_Whole_isShorter 33 = .ok (.isub, 1) := by decide +kernel
theorem gd_Whole_isShorter_34 : decode gb_Whole_isShorter 34 = .ok (.istore_n 2, 1) := by decide +kernel
theorem gd_Whole_isShorter_35 : decode gb_Whole_isShorter 35 = .ok (.iload_n 2, 1) := by decide +kernel
theorem gd_Whole_isShorter_36 : decode gb_Whole_isShorter 36 = .ok (.ifCond .le 24, 3) := by decide +kernel
theorem gd_Whole_isShorter_39 : decode gb_Whole_isShorter 39 = .ok (.aload_n 0, 1) := by decide +kernel
theorem gd_Whole_isShorter_40 : decode gb_Whole_isShorter 40 = .ok (.getfield 9, 3) := by decide +kernel
theorem gd_Whole_isShorter_43 : decode gb_Whole_isShorter 43 = .ok (.iload_n 2, 1) := by decide +kernel
theorem gd_Whole_isShorter_44 : decode gb_Whole_isShorter 44 = .ok (.iaload, 1) := by decide +kernel
theorem gd_Whole_isShorter_45 : decode gb_Whole_isShorter 45 = .ok (.aload_n 1, 1) := by decide +kernel
theorem gd_Whole_isShorter_46 : decode gb_Whole_isShorter 46 = .ok (.getfield 9, 3) := by decide +kernel
theorem gd_Whole_isShorter_49 : decode gb_Whole_isShorter 49 = .ok (.iload_n 2, 1) := by decide +kernel
theorem gd_Whole_isShorter_50 : decode gb_Whole_isShorter 50 = .ok (.iaload, 1) := by decide +kernel
theorem gd_Whole_isShorter_51 : decode gb_Whole_isShorter 51 = .ok (.if_icmp .ne 9, 3) := by decide +kernel
theorem gd_Whole_isShorter_54 : decode gb_Whole_isShorter 54 = .ok (.iinc 2 (-1), 3) := by decide +kernel
theorem gd_Whole_isShorter_57 : decode gb_Whole_isShorter 57 = .ok (.goto (-22), 3) := by decide +kernel
theorem gd_Whole_isShorter_60 : decode gb_Whole_isShorter 60 = .ok (.iload_n 2, 1) := by decide +kernel
theorem gd_Whole_isShorter_61 : decode gb_Whole_isShorter 61 = .ok (.ifCond .lt 22, 3) := by decide +kernel
theorem gd_Whole_isShorter_64 : decode gb_Whole_isShorter 64 = .ok (.aload_n 0, 1) := by decide +kernel
theorem gd_Whole_isShorter_65 : decode gb_Whole_isShorter 65 = .ok (.getfield 9, 3) := by decide +kernel
theorem gd_Whole_isShorter_68 : decode gb_Whole_isShorter 68 = .ok (.iload_n 2, 1) := by decide +kernel
theorem gd_Whole_isShorter_69 : decode gb_Whole_isShorter 69 = .ok (.iaload, 1) := by decide +kernel
theorem gd_Whole_isShorter_70 : decode gb_Whole_isShorter 70 = .ok (.aload_n 1, 1) := by decide +kernel
theorem gd_Whole_isShorter_71 : decode gb_Whole_isShorter 71 = .ok (.getfield 9, 3) := by decide +kernel
theorem gd_Whole_isShorter_74 : decode gb_Whole_isShorter 74 = .ok (.iload_n 2, 1) := by decide +kernel
theorem gd_Whole_isShorter_75 : decode gb_Whole_isShorter 75 = .ok (.iaload, 1) := by decide +kernel
theorem gd_Whole_isShorter_76 : decode gb_Whole_isShorter 76 = .ok (.if_icmp .ge 7, 3) := by decide +kernel
theorem gd_Whole_isShorter_79 : decode gb_Whole_isShorter 79 = .ok (.iconst 1, 1) := by decide +kernel
theorem gd_Whole_isShorter_80 : decode gb_Whole_isShorter 80 = .ok (.goto 4, 3) := by decide +kernel
theorem gd_Whole_isShorter_83 : decode gb_Whole_isShorter 83 = .ok (.iconst 0, 1) := by decide +kernel
theorem gd_Whole_isShorter_84 : decode gb_Whole_isShorter 84 = .ok (.ireturn, 1) := by decide +kernel
def gf_Whole_isShorter_b27 (F : Nat) (z : gw_Sh)  (u : gw_St) (sx0 : Int32) : Option (Int32 × gw_St) :=
  if ¬ (sx0 &&& 1 = sx0) then none else some (sx0, u)
def gf_Whole_isShorter_b84 (F : Nat) (z : gw_Sh)  (u : gw_St) (sx0 : Int32) : Option (Int32 × gw_St) :=
  if ¬ (sx0 &&& 1 = sx0) then none else some (sx0, u)
def gf_Whole_isShorter_b83 (F : Nat) (z : gw_Sh)  (u : gw_St)  : Option (Int32 × gw_St) :=
  gf_Whole_isShorter_b84 F z  u 0
def gf_Whole_isShorter_b60 (F : Nat) (z : gw_Sh)  (u : gw_St) (t0 : Nat) (t1 : Nat) (x2 : Int32) : Option (Int32 × gw_St) :=
  if x2 < 0 then (gf_Whole_isShorter_b83 F z  u ) else (gf_nn (u.2.2 t0 0) fun q4 => if (x2 < 0 ∨ z.2.2 q4 ≤ (x2).toNatClampNeg) then none else gf_nn (u.2.2 t1 0) fun q7 => if (x2 < 0 ∨ z.2.2 q7 ≤ (x2).toNatClampNeg) then none else if (u.1 q7 (x2).toNatClampNeg) ≤ (u.1 q4 (x2).toNatClampNeg) then (gf_Whole_isShorter_b83 F z  u ) else (gf_Whole_isShorter_b84 F z  u 1))
def gf_Whole_isShorter_S35 (F : Nat) (z : gw_Sh)  (rc_35 : gw_St → Nat → Nat → Int32 → Option (Int32 × gw_St)) (u : gw_St) (t0 : Nat) (t1 : Nat) (x2 : Int32) : Option (Int32 × gw_St) :=
  if x2 ≤ 0 then (gf_Whole_isShorter_b60 F z  u t0 t1 x2) else (gf_nn (u.2.2 t0 0) fun q12 => if (x2 < 0 ∨ z.2.2 q12 ≤ (x2).toNatClampNeg) then none else gf_nn (u.2.2 t1 0) fun q15 => if (x2 < 0 ∨ z.2.2 q15 ≤ (x2).toNatClampNeg) then none else if (u.1 q12 (x2).toNatClampNeg) = (u.1 q15 (x2).toNatClampNeg) then (gf_nm (x2 + (-1)) fun a19 => rc_35 u t0 t1 a19) else (gf_Whole_isShorter_b60 F z  u t0 t1 x2))
def gf_Whole_isShorter_L35 (F : Nat) (z : gw_Sh)  : Nat → gw_St → Nat → Nat → Int32 → Option (Int32 × gw_St)
  | 0 => fun _ _ _ _ => none
  | n + 1 => fun u t0 t1 x2 => gf_Whole_isShorter_S35 F z  (gf_Whole_isShorter_L35 F z  n) u t0 t1 x2
def gf_Whole_isShorter_b0 (F : Nat) (z : gw_Sh)  (u : gw_St) (t0 : Nat) (t1 : Nat) : Option (Int32 × gw_St) :=
  if (u.1 t0 1) = (u.1 t1 1) then (gf_nm ((u.1 t0 1) - (1 : Int32)) fun a22 => gf_Whole_isShorter_L35 F z  F u t0 t1 a22) else (if (u.1 t1 1) ≤ (u.1 t0 1) then (gf_Whole_isShorter_b27 F z  u 0) else (gf_Whole_isShorter_b27 F z  u 1))
def gf_Whole_isShorter (F : Nat) (z : gw_Sh) (u : gw_St) (t0 : Nat) (t1 : Nat) : Option (Int32 × gw_St) := gf_Whole_isShorter_b0 F z  u t0 t1
set_option maxHeartbeats 4000000 in
set_option maxRecDepth 20000 in
theorem gx_Whole_isShorter_b27 {p : Program} {l : Launch} {e : Env} {s : State} {m : MethodId} {args : Array Value} {below : List Frame} {meth : Method} {c : Code} {D : va_G} {cA : Nat → ClassId} {hs : Nat → Nat} {z : gw_Sh} (F : Nat) {r0 : (Int32 × gw_St)} (C : gw_Cx p s m args c gb_Whole_isShorter 3 R_Whole D cA) (hr : meth.sig.returnType = (some .boolean)) (hk : meth.locks = false) (u : gw_St) (sx0 : Int32)  {H : Heap} {locs : List Loc} {ls : Array Slot} (hW : gw_Wx D cA hs z s u H locs) (hl : lv_has ls 3 []) (h : gf_Whole_isShorter_b27 F z   u sx0 = some r0) : gw_Gi p l e gr_Whole_isShorter s m args below meth c D cA hs z r0 H locs ls 27 [.int sx0] := by
  obtain ⟨hx, hb, hml, hown, hts, hK⟩ := id C
  unfold gf_Whole_isShorter_b27 at h
  obtain ⟨g1, h⟩ := gf_if_ok h
  obtain rfl := Option.some.inj h
  exact gw_zret C hW hr (Decidable.not_not.mp g1) hk gd_Whole_isShorter_27

set_option maxHeartbeats 4000000 in
set_option maxRecDepth 20000 in
theorem gx_Whole_isShorter_b84 {p : Program} {l : Launch} {e : Env} {s : State} {m : MethodId} {args : Array Value} {below : List Frame} {meth : Method} {c : Code} {D : va_G} {cA : Nat → ClassId} {hs : Nat → Nat} {z : gw_Sh} (F : Nat) {r0 : (Int32 × gw_St)} (C : gw_Cx p s m args c gb_Whole_isShorter 3 R_Whole D cA) (hr : meth.sig.returnType = (some .boolean)) (hk : meth.locks = false) (u : gw_St) (sx0 : Int32)  {H : Heap} {locs : List Loc} {ls : Array Slot} (hW : gw_Wx D cA hs z s u H locs) (hl : lv_has ls 3 []) (h : gf_Whole_isShorter_b84 F z   u sx0 = some r0) : gw_Gi p l e gr_Whole_isShorter s m args below meth c D cA hs z r0 H locs ls 84 [.int sx0] := by
  obtain ⟨hx, hb, hml, hown, hts, hK⟩ := id C
  unfold gf_Whole_isShorter_b84 at h
  obtain ⟨g2, h⟩ := gf_if_ok h
  obtain rfl := Option.some.inj h
  exact gw_zret C hW hr (Decidable.not_not.mp g2) hk gd_Whole_isShorter_84

set_option maxHeartbeats 4000000 in
set_option maxRecDepth 20000 in
theorem gx_Whole_isShorter_b83 {p : Program} {l : Launch} {e : Env} {s : State} {m : MethodId} {args : Array Value} {below : List Frame} {meth : Method} {c : Code} {D : va_G} {cA : Nat → ClassId} {hs : Nat → Nat} {z : gw_Sh} (F : Nat) {r0 : (Int32 × gw_St)} (C : gw_Cx p s m args c gb_Whole_isShorter 3 R_Whole D cA) (hr : meth.sig.returnType = (some .boolean)) (hk : meth.locks = false) (u : gw_St)   {H : Heap} {locs : List Loc} {ls : Array Slot} (hW : gw_Wx D cA hs z s u H locs) (hl : lv_has ls 3 []) (h : gf_Whole_isShorter_b83 F z   u  = some r0) : gw_Gi p l e gr_Whole_isShorter s m args below meth c D cA hs z r0 H locs ls 83 [] := by
  obtain ⟨hx, hb, hml, hown, hts, hK⟩ := id C
  unfold gf_Whole_isShorter_b83 at h
  refine lv_iconst (v := 0) hx hb gd_Whole_isShorter_83 (by decide) ?_
  exact gx_Whole_isShorter_b84 F C hr hk  u 0  hW (lv_sub hl [] rfl) h

set_option maxHeartbeats 4000000 in
set_option maxRecDepth 20000 in
theorem gx_Whole_isShorter_b60 {p : Program} {l : Launch} {e : Env} {s : State} {m : MethodId} {args : Array Value} {below : List Frame} {meth : Method} {c : Code} {D : va_G} {cA : Nat → ClassId} {hs : Nat → Nat} {z : gw_Sh} (F : Nat) {r0 : (Int32 × gw_St)} (C : gw_Cx p s m args c gb_Whole_isShorter 3 R_Whole D cA) (hr : meth.sig.returnType = (some .boolean)) (hk : meth.locks = false) (u : gw_St) (t0 : Nat) (t1 : Nat) (x2 : Int32) (o_t0 : gw_ok z t0 8) (o_t1 : gw_ok z t1 8) {H : Heap} {locs : List Loc} {ls : Array Slot} (hW : gw_Wx D cA hs z s u H locs) (hl : lv_has ls 3 [(0, .ref (hs t0)), (1, .ref (hs t1)), (2, .int x2)]) (h : gf_Whole_isShorter_b60 F z   u t0 t1 x2 = some r0) : gw_Gi p l e gr_Whole_isShorter s m args below meth c D cA hs z r0 H locs ls 60 [] := by
  obtain ⟨hx, hb, hml, hown, hts, hK⟩ := id C
  unfold gf_Whole_isShorter_b60 at h
  refine lv_iload_n hx hb gd_Whole_isShorter_60 rfl (lv_at hl 2 rfl) ?_
  refine lv_if_lt (tgt := 83) hx hb gd_Whole_isShorter_61 (by decide) (fun c3 => ?_) (fun c3 => ?_)
  · have h := gf_t c3 h
    exact gx_Whole_isShorter_b83 F C hr hk  u   hW (lv_sub hl [] rfl) h
  · have h := gf_f c3 h
    refine lv_aload_n hx hb gd_Whole_isShorter_64 rfl (lv_at hl 0 rfl) ?_
    obtain ⟨q4, e5, h⟩ := gf_nn_ok h
    refine gw_getr (k := 0) (ty := 10) (ref := R_Whole) C hW o_t0 (by decide) rfl gi_Whole rfl (by decide) rfl rfl gk_15 gd_Whole_isShorter_65 e5 ?_
    have o_q4 := hW.ref (d := 10) o_t0 e5 rfl
    refine lv_iload_n hx hb gd_Whole_isShorter_68 rfl (lv_at hl 2 rfl) ?_
    obtain ⟨g6, h⟩ := gf_if_ok h
    refine gw_iald C hW o_q4 g6 gd_Whole_isShorter_69 ?_
    refine lv_aload_n hx hb gd_Whole_isShorter_70 rfl (lv_at hl 1 rfl) ?_
    obtain ⟨q7, e8, h⟩ := gf_nn_ok h
    refine gw_getr (k := 0) (ty := 10) (ref := R_Whole) C hW o_t1 (by decide) rfl gi_Whole rfl (by decide) rfl rfl gk_15 gd_Whole_isShorter_71 e8 ?_
    have o_q7 := hW.ref (d := 10) o_t1 e8 rfl
    refine lv_iload_n hx hb gd_Whole_isShorter_74 rfl (lv_at hl 2 rfl) ?_
    obtain ⟨g9, h⟩ := gf_if_ok h
    refine gw_iald C hW o_q7 g9 gd_Whole_isShorter_75 ?_
    refine lv_icmp_ge (tgt := 83) hx hb gd_Whole_isShorter_76 (by decide) (fun c10 => ?_) (fun c10 => ?_)
    · have h := gf_t c10 h
      exact gx_Whole_isShorter_b83 F C hr hk  u   hW (lv_sub hl [] rfl) h
    · have h := gf_f c10 h
      refine lv_iconst (v := 1) hx hb gd_Whole_isShorter_79 (by decide) ?_
      refine lv_goto (tgt := 84) hx hb gd_Whole_isShorter_80 (by decide) ?_
      exact gx_Whole_isShorter_b84 F C hr hk  u 1  hW (lv_sub hl [] rfl) h

set_option maxHeartbeats 4000000 in
set_option maxRecDepth 20000 in
theorem gx_Whole_isShorter_S35 {p : Program} {l : Launch} {e : Env} {s : State} {m : MethodId} {args : Array Value} {below : List Frame} {meth : Method} {c : Code} {D : va_G} {cA : Nat → ClassId} {hs : Nat → Nat} {z : gw_Sh} (F : Nat) {r0 : (Int32 × gw_St)} (C : gw_Cx p s m args c gb_Whole_isShorter 3 R_Whole D cA) (hr : meth.sig.returnType = (some .boolean)) (hk : meth.locks = false) {rc_35 : gw_St → Nat → Nat → Int32 → Option (Int32 × gw_St)} (k_35 : ∀ (u : gw_St) (t0 : Nat) (t1 : Nat) (x2 : Int32) (H : Heap) (locs : List Loc) (ls : Array Slot), gw_ok z t0 8 → gw_ok z t1 8 → gw_Wx D cA hs z s u H locs → lv_has ls 3 [(0, .ref (hs t0)), (1, .ref (hs t1)), (2, .int x2)] → rc_35 u t0 t1 x2 = some r0 → gw_Gi p l e gr_Whole_isShorter s m args below meth c D cA hs z r0 H locs ls 35 []) (u : gw_St) (t0 : Nat) (t1 : Nat) (x2 : Int32) (o_t0 : gw_ok z t0 8) (o_t1 : gw_ok z t1 8) {H : Heap} {locs : List Loc} {ls : Array Slot} (hW : gw_Wx D cA hs z s u H locs) (hl : lv_has ls 3 [(0, .ref (hs t0)), (1, .ref (hs t1)), (2, .int x2)]) (h : gf_Whole_isShorter_S35 F z  rc_35 u t0 t1 x2 = some r0) : gw_Gi p l e gr_Whole_isShorter s m args below meth c D cA hs z r0 H locs ls 35 [] := by
  obtain ⟨hx, hb, hml, hown, hts, hK⟩ := id C
  unfold gf_Whole_isShorter_S35 at h
  refine lv_iload_n hx hb gd_Whole_isShorter_35 rfl (lv_at hl 2 rfl) ?_
  refine lv_if_le (tgt := 60) hx hb gd_Whole_isShorter_36 (by decide) (fun c11 => ?_) (fun c11 => ?_)
  · have h := gf_t c11 h
    exact gx_Whole_isShorter_b60 F C hr hk  u t0 t1 x2 o_t0 o_t1 hW (lv_sub hl [0, 1, 2] rfl) h
  · have h := gf_f c11 h
    refine lv_aload_n hx hb gd_Whole_isShorter_39 rfl (lv_at hl 0 rfl) ?_
    obtain ⟨q12, e13, h⟩ := gf_nn_ok h
    refine gw_getr (k := 0) (ty := 10) (ref := R_Whole) C hW o_t0 (by decide) rfl gi_Whole rfl (by decide) rfl rfl gk_15 gd_Whole_isShorter_40 e13 ?_
    have o_q12 := hW.ref (d := 10) o_t0 e13 rfl
    refine lv_iload_n hx hb gd_Whole_isShorter_43 rfl (lv_at hl 2 rfl) ?_
    obtain ⟨g14, h⟩ := gf_if_ok h
    refine gw_iald C hW o_q12 g14 gd_Whole_isShorter_44 ?_
    refine lv_aload_n hx hb gd_Whole_isShorter_45 rfl (lv_at hl 1 rfl) ?_
    obtain ⟨q15, e16, h⟩ := gf_nn_ok h
    refine gw_getr (k := 0) (ty := 10) (ref := R_Whole) C hW o_t1 (by decide) rfl gi_Whole rfl (by decide) rfl rfl gk_15 gd_Whole_isShorter_46 e16 ?_
    have o_q15 := hW.ref (d := 10) o_t1 e16 rfl
    refine lv_iload_n hx hb gd_Whole_isShorter_49 rfl (lv_at hl 2 rfl) ?_
    obtain ⟨g17, h⟩ := gf_if_ok h
    refine gw_iald C hW o_q15 g17 gd_Whole_isShorter_50 ?_
    refine lv_icmp_ne (tgt := 60) hx hb gd_Whole_isShorter_51 (by decide) (fun c18 => ?_) (fun c18 => ?_)
    · have h := gf_f c18 h
      exact gx_Whole_isShorter_b60 F C hr hk  u t0 t1 x2 o_t0 o_t1 hW (lv_sub hl [0, 1, 2] rfl) h
    · have h := gf_t c18 h
      obtain ⟨a19, e20⟩ : ∃ y : Int32, y = x2 + (-1) := ⟨_, rfl⟩
      have h := gf_nm_ok e20 h
      refine lv_iinc (v := a19) (lv' := [(2, .int a19), (0, .ref (hs t0)), (1, .ref (hs t1))]) hx hb gd_Whole_isShorter_54 hl (k := 2) rfl (by rw [e20]; rfl) (by decide) rfl (fun ls hl => ?_)
      refine lv_goto (tgt := 35) hx hb gd_Whole_isShorter_57 (by decide) ?_
      exact k_35 u t0 t1 a19 _ _ _ o_t0 o_t1 hW (lv_sub hl [1, 2, 0] rfl) h
set_option maxHeartbeats 4000000 in
set_option maxRecDepth 20000 in
theorem gx_Whole_isShorter_L35 {p : Program} {l : Launch} {e : Env} {s : State} {m : MethodId} {args : Array Value} {below : List Frame} {meth : Method} {c : Code} {D : va_G} {cA : Nat → ClassId} {hs : Nat → Nat} {z : gw_Sh} (F : Nat) {r0 : (Int32 × gw_St)} (C : gw_Cx p s m args c gb_Whole_isShorter 3 R_Whole D cA) (hr : meth.sig.returnType = (some .boolean)) (hk : meth.locks = false) : ∀ (n : Nat), ∀ (u : gw_St) (t0 : Nat) (t1 : Nat) (x2 : Int32) (H : Heap) (locs : List Loc) (ls : Array Slot), gw_ok z t0 8 → gw_ok z t1 8 → gw_Wx D cA hs z s u H locs → lv_has ls 3 [(0, .ref (hs t0)), (1, .ref (hs t1)), (2, .int x2)] → gf_Whole_isShorter_L35 F z  n u t0 t1 x2 = some r0 → gw_Gi p l e gr_Whole_isShorter s m args below meth c D cA hs z r0 H locs ls 35 [] := by
  intro n
  induction n with
  | zero =>
    intro u t0 t1 x2 H locs ls o_t0 o_t1 hW hl h
    cases h
  | succ n ih =>
    intro u t0 t1 x2 H locs ls o_t0 o_t1 hW hl h
    exact gx_Whole_isShorter_S35 F C hr hk  ih u t0 t1 x2 o_t0 o_t1 hW hl h

set_option maxHeartbeats 4000000 in
set_option maxRecDepth 20000 in
theorem gx_Whole_isShorter_b0 {p : Program} {l : Launch} {e : Env} {s : State} {m : MethodId} {args : Array Value} {below : List Frame} {meth : Method} {c : Code} {D : va_G} {cA : Nat → ClassId} {hs : Nat → Nat} {z : gw_Sh} (F : Nat) {r0 : (Int32 × gw_St)} (C : gw_Cx p s m args c gb_Whole_isShorter 3 R_Whole D cA) (hr : meth.sig.returnType = (some .boolean)) (hk : meth.locks = false) (u : gw_St) (t0 : Nat) (t1 : Nat) (o_t0 : gw_ok z t0 8) (o_t1 : gw_ok z t1 8) {H : Heap} {locs : List Loc} {ls : Array Slot} (hW : gw_Wx D cA hs z s u H locs) (hl : lv_has ls 3 [(0, .ref (hs t0)), (1, .ref (hs t1))]) (h : gf_Whole_isShorter_b0 F z   u t0 t1 = some r0) : gw_Gi p l e gr_Whole_isShorter s m args below meth c D cA hs z r0 H locs ls 0 [] := by
  obtain ⟨hx, hb, hml, hown, hts, hK⟩ := id C
  unfold gf_Whole_isShorter_b0 at h
  refine lv_aload_n hx hb gd_Whole_isShorter_0 rfl (lv_at hl 0 rfl) ?_
  refine gw_geti (k := 1) (ref := R_Whole) C hW o_t0 (by decide) rfl gi_Whole rfl (by decide) rfl rfl gk_14 gd_Whole_isShorter_1 ?_
  refine lv_aload_n hx hb gd_Whole_isShorter_4 rfl (lv_at hl 1 rfl) ?_
  refine gw_geti (k := 1) (ref := R_Whole) C hW o_t1 (by decide) rfl gi_Whole rfl (by decide) rfl rfl gk_14 gd_Whole_isShorter_5 ?_
  refine lv_icmp_eq (tgt := 28) hx hb gd_Whole_isShorter_8 (by decide) (fun c21 => ?_) (fun c21 => ?_)
  · have h := gf_t c21 h
    refine lv_aload_n hx hb gd_Whole_isShorter_28 rfl (lv_at hl 0 rfl) ?_
    refine gw_geti (k := 1) (ref := R_Whole) C hW o_t0 (by decide) rfl gi_Whole rfl (by decide) rfl rfl gk_14 gd_Whole_isShorter_29 ?_
    refine lv_iconst (v := 1) hx hb gd_Whole_isShorter_32 (by decide) ?_
    refine lv_isub hx hb gd_Whole_isShorter_33 ?_
    refine lv_topi (fun a22 e23 => ?_)
    have h := gf_nm_ok e23 h
    refine lv_istore_n (lv' := [(2, .int a22), (0, .ref (hs t0)), (1, .ref (hs t1))]) hx hb gd_Whole_isShorter_34 rfl hl (by decide) rfl (fun ls hl => ?_)
    exact gx_Whole_isShorter_L35 F C hr hk  F u t0 t1 a22 _ _ _ o_t0 o_t1 hW (lv_sub hl [1, 2, 0] rfl) h
  · have h := gf_f c21 h
    refine lv_aload_n hx hb gd_Whole_isShorter_11 rfl (lv_at hl 0 rfl) ?_
    refine gw_geti (k := 1) (ref := R_Whole) C hW o_t0 (by decide) rfl gi_Whole rfl (by decide) rfl rfl gk_14 gd_Whole_isShorter_12 ?_
    refine lv_aload_n hx hb gd_Whole_isShorter_15 rfl (lv_at hl 1 rfl) ?_
    refine gw_geti (k := 1) (ref := R_Whole) C hW o_t1 (by decide) rfl gi_Whole rfl (by decide) rfl rfl gk_14 gd_Whole_isShorter_16 ?_
    refine lv_icmp_ge (tgt := 26) hx hb gd_Whole_isShorter_19 (by decide) (fun c24 => ?_) (fun c24 => ?_)
    · have h := gf_t c24 h
      refine lv_iconst (v := 0) hx hb gd_Whole_isShorter_26 (by decide) ?_
      exact gx_Whole_isShorter_b27 F C hr hk  u 0  hW (lv_sub hl [] rfl) h
    · have h := gf_f c24 h
      refine lv_iconst (v := 1) hx hb gd_Whole_isShorter_22 (by decide) ?_
      refine lv_goto (tgt := 27) hx hb gd_Whole_isShorter_23 (by decide) ?_
      exact gx_Whole_isShorter_b27 F C hr hk  u 1  hW (lv_sub hl [] rfl) h

set_option maxRecDepth 20000 in
theorem gc_Whole_isShorter (l : Launch) {D : va_G} {cA : Nat → ClassId} {hs : Nat → Nat} {z : gw_Sh} (F : Nat) {u : gw_St} {r0 : (Int32 × gw_St)} {t0 : Nat} {t1 : Nat} (o_t0 : gw_ok z t0 8) (o_t1 : gw_ok z t1 8) (h : gf_Whole_isShorter F z u t0 t1 = some r0) (sz : Nat) : gw_Mi l gy_Whole_isShorter gb_Whole_isShorter 3 (some .boolean) gr_Whole_isShorter [.ref (hs t0), .ref (hs t1)] D cA hs z u sz r0 := by
  refine gw_enter (by decide) (Nat.le_of_ble_eq_true rfl) ?_
  intro p e s m below meth c ls hsz C hW hr hk _ hl
  subst hsz
  exact gx_Whole_isShorter_b0 F C hr hk u t0 t1 o_t0 o_t1 hW (lv_sub hl [0, 1] rfl) h
-- GearDesk$Whole.setDifference(LGearDesk$Whole;LGearDesk$Whole;)V
theorem gk_46 : Cond.methodLink R_Whole 60 gy_Whole_isShorter ∈ gt_T := gt_m5 (List.mem_of_getElem? (i := 75) rfl) rfl
theorem gk_47 : Cond.static gy_Whole_isShorter ∈ gt_T := gt_m5 (List.mem_of_getElem? (i := 76) rfl) rfl
theorem gk_48 : Cond.methodLink R_Whole 56 gy_Whole_combine ∈ gt_T := gt_m5 (List.mem_of_getElem? (i := 70) rfl) rfl
theorem gk_49 : Cond.instanceMethod gy_Whole_combine ∈ gt_T := gt_m5 (List.mem_of_getElem? (i := 72) rfl) rfl
theorem gk_50 : Cond.selects R_Whole gy_Whole_combine gy_Whole_combine ∈ gt_T := gt_p2 (List.mem_of_getElem? (i := 7) rfl) rfl
def gy_Whole_setDifference : MethodName := ⟨R_Whole, "setDifference", "(LGearDesk$Whole;LGearDesk$Whole;)V"⟩
abbrev gb_Whole_setDifference : ByteArray := prog_8_method_7_code
theorem gk_51 : Cond.code gy_Whole_setDifference gb_Whole_setDifference 3 none ∈ gt_T := gt_m5 (List.mem_of_getElem? (i := 69) rfl) rfl
def gr_Whole_setDifference : Room := gw_rm 3 116
theorem gm_Whole_setDifference : gw_Mth gy_Whole_setDifference gb_Whole_setDifference 3 none 2 := ⟨gk_51, gk_16, ⟨by decide +kernel, by decide +kernel⟩, by decide +kernel⟩
theorem gd_Whole_setDifference_0 : decode gb_Whole_setDifference 0 = .ok (.aload_n 1, 1) := by decide +kernel
theorem gd_Whole_setDifference_1 : decode gb_Whole_setDifference 1 = .ok (.getfield 41, 3) := by decide +kernel
theorem gd_Whole_setDifference_4 : decode gb_Whole_setDifference 4 = .ok (.aload_n 2, 1) := by decide +kernel
theorem gd_Whole_setDifference_5 : decode gb_Whole_setDifference 5 = .ok (.getfield 41, 3) := by decide +kernel
theorem gd_Whole_setDifference_8 : decode gb_Whole_setDifference 8 = .ok (.imul, 1) := by decide +kernel
theorem gd_Whole_setDifference_9 : decode gb_Whole_setDifference 9 = .ok (.ifCond .ge 17, 3) := by decide +kernel
theorem gd_Whole_setDifference_12 : decode gb_Whole_setDifference 12 = .ok (.aload_n 0, 1) := by decide +kernel
theorem gd_Whole_setDifference_13 : decode gb_Whole_setDifference 13 = .ok (.aload_n 1, 1) := by decide +kernel
theorem gd_Whole_setDifference_14 : decode gb_Whole_setDifference 14 = .ok (.aload_n 2, 1) := by decide +kernel
theorem gd_Whole_setDifference_15 : decode gb_Whole_setDifference 15 = .ok (.iconst 1, 1) := by decide +kernel
theorem gd_Whole_setDifference_16 : decode gb_Whole_setDifference 16 = .ok (.aload_n 1, 1) := by decide +kernel
theorem gd_Whole_setDifference_17 : decode gb_Whole_setDifference 17 = .ok (.getfield 41, 3) := by decide +kernel
theorem gd_Whole_setDifference_20 : decode gb_Whole_setDifference 20 = .ok (.invokevirtual 56, 3) := by decide +kernel
theorem gd_Whole_setDifference_23 : decode gb_Whole_setDifference 23 = .ok (.goto 37, 3) := by decide +kernel
theorem gd_Whole_setDifference_26 : decode gb_Whole_setDifference 26 = .ok (.aload_n 1, 1) := by decide +kernel
theorem gd_Whole_setDifference_27 : decode gb_Whole_setDifference 27 = .ok (.aload_n 2, 1) := by decide +kernel
theorem gd_Whole_setDifference_28 : decode gb_Whole_setDifference 28 = .ok (.invokestatic 60, 3) := by decide +kernel
theorem gd_Whole_setDifference_31 : decode gb_Whole_setDifference 31 = .ok (.ifCond .eq 18, 3) := by decide +kernel
theorem gd_Whole_setDifference_34 : decode gb_Whole_setDifference 34 = .ok (.aload_n 0, 1) := by decide +kernel
theorem gd_Whole_setDifference_35 : decode gb_Whole_setDifference 35 = .ok (.aload_n 2, 1) := by decide +kernel
theorem gd_Whole_setDifference_36 : decode gb_Whole_setDifference 36 = .ok (.aload_n 1, 1) := by decide +kernel
theorem gd_Whole_setDifference_37 : decode gb_Whole_setDifference 37 = .ok (.iconst (-1), 1) := by decide +kernel
theorem gd_Whole_setDifference_38 : decode gb_Whole_setDifference 38 = .ok (.aload_n 2, 1) := by decide +kernel
theorem gd_Whole_setDifference_39 : decode gb_Whole_setDifference 39 = .ok (.getfield 41, 3) := by decide +kernel
theorem gd_Whole_setDifference_42 : decode gb_Whole_setDifference 42 = .ok (.ineg, 1) := by decide +kernel
theorem gd_Whole_setDifference_43 : decode gb_Whole_setDifference 43 = .ok (.invokevirtual 56, 3) := by decide +kernel
theorem gd_Whole_setDifference_46 : decode gb_Whole_setDifference 46 = .ok (.goto 14, 3) := by decide +kernel
theorem gd_Whole_setDifference_49 : decode gb_Whole_setDifference 49 = .ok (.aload_n 0, 1) := by decide +kernel
theorem gd_Whole_setDifference_50 : decode gb_Whole_setDifference 50 = .ok (.aload_n 1, 1) := by decide +kernel
theorem gd_Whole_setDifference_51 : decode gb_Whole_setDifference 51 = .ok (.aload_n 2, 1) := by decide +kernel
theorem gd_Whole_setDifference_52 : decode gb_Whole_setDifference 52 = .ok (.iconst (-1), 1) := by decide +kernel
theorem gd_Whole_setDifference_53 : decode gb_Whole_setDifference 53 = .ok (.aload_n 1, 1) := by decide +kernel
theorem gd_Whole_setDifference_54 : decode gb_Whole_setDifference 54 = .ok (.getfield 41, 3) := by decide +kernel
theorem gd_Whole_setDifference_57 : decode gb_Whole_setDifference 57 = .ok (.invokevirtual 56, 3) := by decide +kernel
theorem gd_Whole_setDifference_60 : decode gb_Whole_setDifference 60 = .ok (.return_, 1) := by decide +kernel
def gf_Whole_setDifference_b60 (F : Nat) (z : gw_Sh)  (u : gw_St)  : Option gw_St :=
  some u
def gf_Whole_setDifference_b0 (F : Nat) (z : gw_Sh)  (u : gw_St) (t0 : Nat) (t1 : Nat) (t2 : Nat) : Option gw_St :=
  if 0 ≤ ((u.1 t1 2) * (u.1 t2 2)) then (gf_cl (gf_Whole_isShorter F z u t1 t2) fun a4 u2 => if a4 = 0 then ((gf_Whole_combine F z u2 t0 t1 t2 (-1 : Int32) (u2.1 t1 2)).bind fun u6 => gf_Whole_setDifference_b60 F z  u6 ) else ((gf_Whole_combine F z u2 t0 t2 t1 (-1 : Int32) (-(u2.1 t2 2))).bind fun u8 => gf_Whole_setDifference_b60 F z  u8 )) else ((gf_Whole_combine F z u t0 t1 t2 (1 : Int32) (u.1 t1 2)).bind fun u10 => gf_Whole_setDifference_b60 F z  u10 )
def gf_Whole_setDifference (F : Nat) (z : gw_Sh) (u : gw_St) (t0 : Nat) (t1 : Nat) (t2 : Nat) : Option gw_St := gf_Whole_setDifference_b0 F z  u t0 t1 t2
set_option maxHeartbeats 4000000 in
set_option maxRecDepth 20000 in
theorem gx_Whole_setDifference_b60 {p : Program} {l : Launch} {e : Env} {s : State} {m : MethodId} {args : Array Value} {below : List Frame} {meth : Method} {c : Code} {D : va_G} {cA : Nat → ClassId} {hs : Nat → Nat} {z : gw_Sh} (F : Nat) {r0 : gw_St} (C : gw_Cx p s m args c gb_Whole_setDifference 3 R_Whole D cA) (hr : meth.sig.returnType = none) (hk : meth.locks = false) (u : gw_St)   {H : Heap} {locs : List Loc} {ls : Array Slot} (hW : gw_Wx D cA hs z s u H locs) (hl : lv_has ls 3 []) (h : gf_Whole_setDifference_b60 F z   u  = some r0) : gw_Gv p l e gr_Whole_setDifference s m args below meth c D cA hs z r0 H locs ls 60 [] := by
  obtain ⟨hx, hb, hml, hown, hts, hK⟩ := id C
  unfold gf_Whole_setDifference_b60 at h
  obtain rfl := Option.some.inj h
  exact gw_vret C hW hr hk gd_Whole_setDifference_60

set_option maxHeartbeats 4000000 in
set_option maxRecDepth 20000 in
theorem gx_Whole_setDifference_b0 {p : Program} {l : Launch} {e : Env} {s : State} {m : MethodId} {args : Array Value} {below : List Frame} {meth : Method} {c : Code} {D : va_G} {cA : Nat → ClassId} {hs : Nat → Nat} {z : gw_Sh} (F : Nat) {r0 : gw_St} (C : gw_Cx p s m args c gb_Whole_setDifference 3 R_Whole D cA) (hr : meth.sig.returnType = none) (hk : meth.locks = false) (u : gw_St) (t0 : Nat) (t1 : Nat) (t2 : Nat) (o_t0 : gw_ok z t0 8) (o_t1 : gw_ok z t1 8) (o_t2 : gw_ok z t2 8) {H : Heap} {locs : List Loc} {ls : Array Slot} (hW : gw_Wx D cA hs z s u H locs) (hl : lv_has ls 3 [(0, .ref (hs t0)), (1, .ref (hs t1)), (2, .ref (hs t2))]) (h : gf_Whole_setDifference_b0 F z   u t0 t1 t2 = some r0) : gw_Gv p l e gr_Whole_setDifference s m args below meth c D cA hs z r0 H locs ls 0 [] := by
  obtain ⟨hx, hb, hml, hown, hts, hK⟩ := id C
  unfold gf_Whole_setDifference_b0 at h
  refine lv_aload_n hx hb gd_Whole_setDifference_0 rfl (lv_at hl 1 rfl) ?_
  refine gw_geti (k := 2) (ref := R_Whole) C hW o_t1 (by decide) rfl gi_Whole rfl (by decide) rfl rfl gk_13 gd_Whole_setDifference_1 ?_
  refine lv_aload_n hx hb gd_Whole_setDifference_4 rfl (lv_at hl 2 rfl) ?_
  refine gw_geti (k := 2) (ref := R_Whole) C hW o_t2 (by decide) rfl gi_Whole rfl (by decide) rfl rfl gk_13 gd_Whole_setDifference_5 ?_
  refine lv_imul hx hb gd_Whole_setDifference_8 ?_
  refine lv_if_ge (tgt := 26) hx hb gd_Whole_setDifference_9 (by decide) (fun c1 => ?_) (fun c1 => ?_)
  · have h := gf_t c1 h
    refine lv_aload_n hx hb gd_Whole_setDifference_26 rfl (lv_at hl 1 rfl) ?_
    refine lv_aload_n hx hb gd_Whole_setDifference_27 rfl (lv_at hl 2 rfl) ?_
    obtain ⟨a4, u2, d3, h⟩ := gf_cl_ok h
    refine gw_callSi (As := [.ref (hs t1), .ref (hs t2)]) (rest := []) C hW (fun _ h => Or.inr h) hl.1 gm_Whole_isShorter (gc_Whole_isShorter l F o_t1 o_t2 d3 _) gk_46 gk_47 rfl rfl ⟨Nat.le_of_ble_eq_true rfl, Nat.le_of_ble_eq_true rfl⟩ ⟨Nat.zero_le _, Nat.zero_le _⟩ rfl rfl (Nat.le_of_ble_eq_true rfl) gd_Whole_setDifference_28 (fun H locs hW => ?_)
    refine lv_if_eq (tgt := 49) hx hb gd_Whole_setDifference_31 (by decide) (fun c5 => ?_) (fun c5 => ?_)
    · have h := gf_t c5 h
      refine lv_aload_n hx hb gd_Whole_setDifference_49 rfl (lv_at hl 0 rfl) ?_
      refine lv_aload_n hx hb gd_Whole_setDifference_50 rfl (lv_at hl 1 rfl) ?_
      refine lv_aload_n hx hb gd_Whole_setDifference_51 rfl (lv_at hl 2 rfl) ?_
      refine lv_iconst (v := (-1)) hx hb gd_Whole_setDifference_52 (by decide) ?_
      refine lv_aload_n hx hb gd_Whole_setDifference_53 rfl (lv_at hl 1 rfl) ?_
      refine gw_geti (k := 2) (ref := R_Whole) C hW o_t1 (by decide) rfl gi_Whole rfl (by decide) rfl rfl gk_13 gd_Whole_setDifference_54 ?_
      obtain ⟨u6, d7, h⟩ := gf_bd_ok h
      refine gw_callVv (K := R_Whole) (As := [.ref (hs t1), .ref (hs t2), .int (-1 : Int32), .int (u2.1 t1 2)]) (rest := []) C hW (fun _ h => Or.inr h) hl.1 gm_Whole_combine (gc_Whole_combine l F o_t0 o_t1 o_t2 d7 _) gk_48 gk_49 gk_50 o_t0 (by decide) rfl rfl rfl ⟨Nat.le_of_ble_eq_true rfl, Nat.le_of_ble_eq_true rfl⟩ ⟨Nat.zero_le _, Nat.zero_le _⟩ rfl rfl (Nat.le_of_ble_eq_true rfl) gd_Whole_setDifference_57 (fun H locs hW => ?_)
      exact gx_Whole_setDifference_b60 F C hr hk  u6   hW (lv_sub hl [] rfl) h
    · have h := gf_f c5 h
      refine lv_aload_n hx hb gd_Whole_setDifference_34 rfl (lv_at hl 0 rfl) ?_
      refine lv_aload_n hx hb gd_Whole_setDifference_35 rfl (lv_at hl 2 rfl) ?_
      refine lv_aload_n hx hb gd_Whole_setDifference_36 rfl (lv_at hl 1 rfl) ?_
      refine lv_iconst (v := (-1)) hx hb gd_Whole_setDifference_37 (by decide) ?_
      refine lv_aload_n hx hb gd_Whole_setDifference_38 rfl (lv_at hl 2 rfl) ?_
      refine gw_geti (k := 2) (ref := R_Whole) C hW o_t2 (by decide) rfl gi_Whole rfl (by decide) rfl rfl gk_13 gd_Whole_setDifference_39 ?_
      refine lv_ineg hx hb gd_Whole_setDifference_42 ?_
      obtain ⟨u8, d9, h⟩ := gf_bd_ok h
      refine gw_callVv (K := R_Whole) (As := [.ref (hs t2), .ref (hs t1), .int (-1 : Int32), .int (-(u2.1 t2 2))]) (rest := []) C hW (fun _ h => Or.inr h) hl.1 gm_Whole_combine (gc_Whole_combine l F o_t0 o_t2 o_t1 d9 _) gk_48 gk_49 gk_50 o_t0 (by decide) rfl rfl rfl ⟨Nat.le_of_ble_eq_true rfl, Nat.le_of_ble_eq_true rfl⟩ ⟨Nat.zero_le _, Nat.zero_le _⟩ rfl rfl (Nat.le_of_ble_eq_true rfl) gd_Whole_setDifference_43 (fun H locs hW => ?_)
      refine lv_goto (tgt := 60) hx hb gd_Whole_setDifference_46 (by decide) ?_
      exact gx_Whole_setDifference_b60 F C hr hk  u8   hW (lv_sub hl [] rfl) h
  · have h := gf_f c1 h
    refine lv_aload_n hx hb gd_Whole_setDifference_12 rfl (lv_at hl 0 rfl) ?_
    refine lv_aload_n hx hb gd_Whole_setDifference_13 rfl (lv_at hl 1 rfl) ?_
    refine lv_aload_n hx hb gd_Whole_setDifference_14 rfl (lv_at hl 2 rfl) ?_
    refine lv_iconst (v := 1) hx hb gd_Whole_setDifference_15 (by decide) ?_
    refine lv_aload_n hx hb gd_Whole_setDifference_16 rfl (lv_at hl 1 rfl) ?_
    refine gw_geti (k := 2) (ref := R_Whole) C hW o_t1 (by decide) rfl gi_Whole rfl (by decide) rfl rfl gk_13 gd_Whole_setDifference_17 ?_
    obtain ⟨u10, d11, h⟩ := gf_bd_ok h
    refine gw_callVv (K := R_Whole) (As := [.ref (hs t1), .ref (hs t2), .int (1 : Int32), .int (u.1 t1 2)]) (rest := []) C hW (fun _ h => Or.inr h) hl.1 gm_Whole_combine (gc_Whole_combine l F o_t0 o_t1 o_t2 d11 _) gk_48 gk_49 gk_50 o_t0 (by decide) rfl rfl rfl ⟨Nat.le_of_ble_eq_true rfl, Nat.le_of_ble_eq_true rfl⟩ ⟨Nat.zero_le _, Nat.zero_le _⟩ rfl rfl (Nat.le_of_ble_eq_true rfl) gd_Whole_setDifference_20 (fun H locs hW => ?_)
    refine lv_goto (tgt := 60) hx hb gd_Whole_setDifference_23 (by decide) ?_
    exact gx_Whole_setDifference_b60 F C hr hk  u10   hW (lv_sub hl [] rfl) h

set_option maxRecDepth 20000 in
theorem gc_Whole_setDifference (l : Launch) {D : va_G} {cA : Nat → ClassId} {hs : Nat → Nat} {z : gw_Sh} (F : Nat) {u : gw_St} {r0 : gw_St} {t0 : Nat} {t1 : Nat} {t2 : Nat} (o_t0 : gw_ok z t0 8) (o_t1 : gw_ok z t1 8) (o_t2 : gw_ok z t2 8) (h : gf_Whole_setDifference F z u t0 t1 t2 = some r0) (sz : Nat) : gw_Mv l gy_Whole_setDifference gb_Whole_setDifference 3 none gr_Whole_setDifference [.ref (hs t0), .ref (hs t1), .ref (hs t2)] D cA hs z u sz r0 := by
  refine gw_enter (by decide) (Nat.le_of_ble_eq_true rfl) ?_
  intro p e s m below meth c ls hsz C hW hr hk _ hl
  subst hsz
  exact gx_Whole_setDifference_b0 F C hr hk u t0 t1 t2 o_t0 o_t1 o_t2 hW (lv_sub hl [0, 1, 2] rfl) h
-- GearDesk$Whole.shiftUp(LGearDesk$Whole;I)V
def gy_Whole_shiftUp : MethodName := ⟨R_Whole, "shiftUp", "(LGearDesk$Whole;I)V"⟩
abbrev gb_Whole_shiftUp : ByteArray := prog_8_method_10_code
theorem gk_52 : Cond.code gy_Whole_shiftUp gb_Whole_shiftUp 8 none ∈ gt_T := gt_m5 (List.mem_of_getElem? (i := 121) rfl) rfl
def gr_Whole_shiftUp : Room := gw_rm 1 64
theorem gm_Whole_shiftUp : gw_Mth gy_Whole_shiftUp gb_Whole_shiftUp 8 none 2 := ⟨gk_52, gk_16, ⟨by decide +kernel, by decide +kernel⟩, by decide +kernel⟩
theorem gd_Whole_shiftUp_0 : decode gb_Whole_shiftUp 0 = .ok (.lconst 0, 1) := by decide +kernel
theorem gd_Whole_shiftUp_1 : decode gb_Whole_shiftUp 1 = .ok (.lstore_n 3, 1) := by decide +kernel
theorem gd_Whole_shiftUp_2 : decode gb_Whole_shiftUp 2 = .ok (.iconst 0, 1) := by decide +kernel
theorem gd_Whole_shiftUp_3 : decode gb_Whole_shiftUp 3 = .ok (.istore 5, 2) := by decide +kernel
theorem gd_Whole_shiftUp_5 : decode gb_Whole_shiftUp 5 = .ok (.iload 5, 2) := by decide +kernel
theorem gd_Whole_shiftUp_7 : decode gb_Whole_shiftUp 7 = .ok (.aload_n 1, 1) := by decide +kernel
theorem gd_Whole_shiftUp_8 : decode gb_Whole_shiftUp 8 = .ok (.getfield 31, 3) := by decide +kernel
theorem gd_Whole_shiftUp_11 : decode gb_Whole_shiftUp 11 = .ok (.if_icmp .ge 43, 3) := by decide +kernel
theorem gd_Whole_shiftUp_14 : decode gb_Whole_shiftUp 14 = .ok (.aload_n 1, 1) := by decide +kernel
theorem gd_Whole_shiftUp_15 : decode gb_Whole_shiftUp 15 = .ok (.getfield 9, 3) := by decide +kernel
theorem gd_Whole_shiftUp_18 : decode gb_Whole_shiftUp 18 = .ok (.iload 5, 2) := by decide +kernel
theorem gd_Whole_shiftUp_20 : decode gb_Whole_shiftUp 20 = .ok (.iaload, 1) := by decide +kernel
theorem gd_Whole_shiftUp_21 : decode gb_Whole_shiftUp 21 = .ok (.i2l, 1) := by decide +kernel
theorem gd_Whole_shiftUp_22 : decode gb_Whole_shiftUp 22 = .ok (.iload_n 2, 1) := by decide +kernel
theorem gd_Whole_shiftUp_23 : decode gb_Whole_shiftUp 23 = .ok (.lshl, 1) := by decide +kernel
theorem gd_Whole_shiftUp_24 : decode gb_Whole_shiftUp 24 = .ok (.lload_n 3, 1) := by decide +kernel
theorem gd_Whole_shiftUp_25 : decode gb_Whole_shiftUp 25 = .ok (.lor, 1) := by decide +kernel
theorem gd_Whole_shiftUp_26 : decode gb_Whole_shiftUp 26 = .ok (.lstore 6, 2) := by decide +kernel
theorem gd_Whole_shiftUp_28 : decode gb_Whole_shiftUp 28 = .ok (.aload_n 0, 1) := by decide +kernel
theorem gd_Whole_shiftUp_29 : decode gb_Whole_shiftUp 29 = .ok (.getfield 9, 3) := by decide +kernel
theorem gd_Whole_shiftUp_32 : decode gb_Whole_shiftUp 32 = .ok (.iload 5, 2) := by decide +kernel
theorem gd_Whole_shiftUp_34 : decode gb_Whole_shiftUp 34 = .ok (.lload 6, 2) := by decide +kernel
theorem gd_Whole_shiftUp_36 : decode gb_Whole_shiftUp 36 = .ok (.ldc2_w 19, 3) := by decide +kernel
theorem gd_Whole_shiftUp_39 : decode gb_Whole_shiftUp 39 = .ok (.land, 1) := by decide +kernel
theorem gd_Whole_shiftUp_40 : decode gb_Whole_shiftUp 40 = .ok (.l2i, 1) := by decide +kernel
theorem gd_Whole_shiftUp_41 : decode gb_Whole_shiftUp 41 = .ok (.iastore, 1) := by decide +kernel
theorem gd_Whole_shiftUp_42 : decode gb_Whole_shiftUp 42 = .ok (.lload 6, 2) := by decide +kernel
theorem gd_Whole_shiftUp_44 : decode gb_Whole_shiftUp 44 = .ok (.bipush 31, 2) := by decide +kernel
theorem gd_Whole_shiftUp_46 : decode gb_Whole_shiftUp 46 = .ok (.lshr, 1) := by decide +kernel
theorem gd_Whole_shiftUp_47 : decode gb_Whole_shiftUp 47 = .ok (.lstore_n 3, 1) := by decide +kernel
theorem gd_Whole_shiftUp_48 : decode gb_Whole_shiftUp 48 = .ok (.iinc 5 1, 3) := by decide +kernel
theorem gd_Whole_shiftUp_51 : decode gb_Whole_shiftUp 51 = .ok (.goto (-46), 3) := by decide +kernel
theorem gd_Whole_shiftUp_54 : decode gb_Whole_shiftUp 54 = .ok (.aload_n 0, 1) := by decide +kernel
theorem gd_Whole_shiftUp_55 : decode gb_Whole_shiftUp 55 = .ok (.getfield 9, 3) := by decide +kernel
theorem gd_Whole_shiftUp_58 : decode gb_Whole_shiftUp 58 = .ok (.aload_n 1, 1) := by decide +kernel
theorem gd_Whole_shiftUp_59 : decode gb_Whole_shiftUp 59 = .ok (.getfield 31, 3) := by decide +kernel
theorem gd_Whole_shiftUp_62 : decode gb_Whole_shiftUp 62 = .ok (.lload_n 3, 1) := by decide +kernel
theorem gd_Whole_shiftUp_63 : decode gb_Whole_shiftUp 63 = .ok (.l2i, 1) := by decide +kernel
theorem gd_Whole_shiftUp_64 : decode gb_Whole_shiftUp 64 = .ok (.iastore, 1) := by decide +kernel
theorem gd_Whole_shiftUp_65 : decode gb_Whole_shiftUp 65 = .ok (.return_, 1) := by decide +kernel
def gf_Whole_shiftUp_S5 (F : Nat) (z : gw_Sh)  (rc_5 : gw_St → Nat → Nat → Int32 → Int64 → Int32 → Option gw_St) (u : gw_St) (t0 : Nat) (t1 : Nat) (x2 : Int32) (y3 : Int64) (x5 : Int32) : Option gw_St :=
  if (u.1 t1 1) ≤ x5 then (gf_nn (u.2.2 t0 0) fun q2 => if ((u.1 t1 1) < 0 ∨ z.2.2 q2 ≤ ((u.1 t1 1)).toNatClampNeg) then none else gf_nm (gw_wi u q2 ((u.1 t1 1)).toNatClampNeg ((y3).toInt32)) fun u5 => some u5) else (gf_nn (u.2.2 t1 0) fun q7 => if (x5 < 0 ∨ z.2.2 q7 ≤ (x5).toNatClampNeg) then none else gf_nm (((((u.1 q7 (x5).toNatClampNeg)).toInt64) <<< ((x2).toInt64 &&& 63)) ||| y3) fun a10 => gf_nn (u.2.2 t0 0) fun q12 => if (x5 < 0 ∨ z.2.2 q12 ≤ (x5).toNatClampNeg) then none else gf_nm (gw_wi u q12 (x5).toNatClampNeg (((a10 &&& (2147483647 : Int64))).toInt32)) fun u15 => gf_nm (a10 >>> (((31 : Int32)).toInt64 &&& 63)) fun a17 => gf_nm (x5 + 1) fun a19 => rc_5 u15 t0 t1 x2 a17 a19)
def gf_Whole_shiftUp_L5 (F : Nat) (z : gw_Sh)  : Nat → gw_St → Nat → Nat → Int32 → Int64 → Int32 → Option gw_St
  | 0 => fun _ _ _ _ _ _ => none
  | n + 1 => fun u t0 t1 x2 y3 x5 => gf_Whole_shiftUp_S5 F z  (gf_Whole_shiftUp_L5 F z  n) u t0 t1 x2 y3 x5
def gf_Whole_shiftUp_b0 (F : Nat) (z : gw_Sh)  (u : gw_St) (t0 : Nat) (t1 : Nat) (x2 : Int32) : Option gw_St :=
  gf_Whole_shiftUp_L5 F z  F u t0 t1 x2 0 0
def gf_Whole_shiftUp (F : Nat) (z : gw_Sh) (u : gw_St) (t0 : Nat) (t1 : Nat) (x2 : Int32) : Option gw_St := gf_Whole_shiftUp_b0 F z  u t0 t1 x2
set_option maxHeartbeats 4000000 in
set_option maxRecDepth 20000 in
theorem gx_Whole_shiftUp_S5 {p : Program} {l : Launch} {e : Env} {s : State} {m : MethodId} {args : Array Value} {below : List Frame} {meth : Method} {c : Code} {D : va_G} {cA : Nat → ClassId} {hs : Nat → Nat} {z : gw_Sh} (F : Nat) {r0 : gw_St} (C : gw_Cx p s m args c gb_Whole_shiftUp 8 R_Whole D cA) (hr : meth.sig.returnType = none) (hk : meth.locks = false) {rc_5 : gw_St → Nat → Nat → Int32 → Int64 → Int32 → Option gw_St} (k_5 : ∀ (u : gw_St) (t0 : Nat) (t1 : Nat) (x2 : Int32) (y3 : Int64) (x5 : Int32) (H : Heap) (locs : List Loc) (ls : Array Slot), gw_ok z t0 8 → gw_ok z t1 8 → gw_Wx D cA hs z s u H locs → lv_has ls 8 [(0, .ref (hs t0)), (1, .ref (hs t1)), (2, .int x2), (3, .long y3), (5, .int x5)] → rc_5 u t0 t1 x2 y3 x5 = some r0 → gw_Gv p l e gr_Whole_shiftUp s m args below meth c D cA hs z r0 H locs ls 5 []) (u : gw_St) (t0 : Nat) (t1 : Nat) (x2 : Int32) (y3 : Int64) (x5 : Int32) (o_t0 : gw_ok z t0 8) (o_t1 : gw_ok z t1 8) {H : Heap} {locs : List Loc} {ls : Array Slot} (hW : gw_Wx D cA hs z s u H locs) (hl : lv_has ls 8 [(0, .ref (hs t0)), (1, .ref (hs t1)), (2, .int x2), (3, .long y3), (5, .int x5)]) (h : gf_Whole_shiftUp_S5 F z  rc_5 u t0 t1 x2 y3 x5 = some r0) : gw_Gv p l e gr_Whole_shiftUp s m args below meth c D cA hs z r0 H locs ls 5 [] := by
  obtain ⟨hx, hb, hml, hown, hts, hK⟩ := id C
  unfold gf_Whole_shiftUp_S5 at h
  refine lv_iload hx hb gd_Whole_shiftUp_5 (lv_at hl 4 rfl) ?_
  refine lv_aload_n hx hb gd_Whole_shiftUp_7 rfl (lv_at hl 1 rfl) ?_
  refine gw_geti (k := 1) (ref := R_Whole) C hW o_t1 (by decide) rfl gi_Whole rfl (by decide) rfl rfl gk_14 gd_Whole_shiftUp_8 ?_
  refine lv_icmp_ge (tgt := 54) hx hb gd_Whole_shiftUp_11 (by decide) (fun c1 => ?_) (fun c1 => ?_)
  · have h := gf_t c1 h
    refine lv_aload_n hx hb gd_Whole_shiftUp_54 rfl (lv_at hl 0 rfl) ?_
    obtain ⟨q2, e3, h⟩ := gf_nn_ok h
    refine gw_getr (k := 0) (ty := 10) (ref := R_Whole) C hW o_t0 (by decide) rfl gi_Whole rfl (by decide) rfl rfl gk_15 gd_Whole_shiftUp_55 e3 ?_
    have o_q2 := hW.ref (d := 10) o_t0 e3 rfl
    refine lv_aload_n hx hb gd_Whole_shiftUp_58 rfl (lv_at hl 1 rfl) ?_
    refine gw_geti (k := 1) (ref := R_Whole) C hW o_t1 (by decide) rfl gi_Whole rfl (by decide) rfl rfl gk_14 gd_Whole_shiftUp_59 ?_
    refine lv_lload_n hx hb gd_Whole_shiftUp_62 rfl (lv_at hl 3 rfl) ?_
    refine lv_l2i hx hb gd_Whole_shiftUp_63 rfl ?_
    obtain ⟨g4, h⟩ := gf_if_ok h
    refine gw_iast C hW o_q2 g4 gd_Whole_shiftUp_64 (fun u5 H locs e6 hW => ?_)
    have h := gf_nm_ok e6 h
    obtain rfl := Option.some.inj h
    exact gw_vret C hW hr hk gd_Whole_shiftUp_65
  · have h := gf_f c1 h
    refine lv_aload_n hx hb gd_Whole_shiftUp_14 rfl (lv_at hl 1 rfl) ?_
    obtain ⟨q7, e8, h⟩ := gf_nn_ok h
    refine gw_getr (k := 0) (ty := 10) (ref := R_Whole) C hW o_t1 (by decide) rfl gi_Whole rfl (by decide) rfl rfl gk_15 gd_Whole_shiftUp_15 e8 ?_
    have o_q7 := hW.ref (d := 10) o_t1 e8 rfl
    refine lv_iload hx hb gd_Whole_shiftUp_18 (lv_at hl 4 rfl) ?_
    obtain ⟨g9, h⟩ := gf_if_ok h
    refine gw_iald C hW o_q7 g9 gd_Whole_shiftUp_20 ?_
    refine lv_i2l hx hb gd_Whole_shiftUp_21 rfl ?_
    refine lv_iload_n hx hb gd_Whole_shiftUp_22 rfl (lv_at hl 2 rfl) ?_
    refine lv_lshl hx hb gd_Whole_shiftUp_23 rfl ?_
    refine lv_lload_n hx hb gd_Whole_shiftUp_24 rfl (lv_at hl 3 rfl) ?_
    refine lv_lor hx hb gd_Whole_shiftUp_25 ?_
    refine lv_topl (fun a10 e11 => ?_)
    have h := gf_nm_ok e11 h
    refine lv_lstore (lv' := [(6, .long a10), (0, .ref (hs t0)), (1, .ref (hs t1)), (2, .int x2), (3, .long y3), (5, .int x5)]) hx hb gd_Whole_shiftUp_26 hl (by decide) rfl (fun ls hl => ?_)
    refine lv_aload_n hx hb gd_Whole_shiftUp_28 rfl (lv_at hl 1 rfl) ?_
    obtain ⟨q12, e13, h⟩ := gf_nn_ok h
    refine gw_getr (k := 0) (ty := 10) (ref := R_Whole) C hW o_t0 (by decide) rfl gi_Whole rfl (by decide) rfl rfl gk_15 gd_Whole_shiftUp_29 e13 ?_
    have o_q12 := hW.ref (d := 10) o_t0 e13 rfl
    refine lv_iload hx hb gd_Whole_shiftUp_32 (lv_at hl 5 rfl) ?_
    refine lv_lload hx hb gd_Whole_shiftUp_34 (lv_at hl 0 rfl) ?_
    refine lv_ldc2 (v := 2147483647) hx hb hown (hts _ gk_23) gd_Whole_shiftUp_36 ?_
    refine lv_land hx hb gd_Whole_shiftUp_39 ?_
    refine lv_l2i hx hb gd_Whole_shiftUp_40 rfl ?_
    obtain ⟨g14, h⟩ := gf_if_ok h
    refine gw_iast C hW o_q12 g14 gd_Whole_shiftUp_41 (fun u15 H locs e16 hW => ?_)
    have h := gf_nm_ok e16 h
    refine lv_lload hx hb gd_Whole_shiftUp_42 (lv_at hl 0 rfl) ?_
    refine lv_bipush (v := 31) hx hb gd_Whole_shiftUp_44 (by decide) ?_
    refine lv_lshr hx hb gd_Whole_shiftUp_46 rfl ?_
    refine lv_topl (fun a17 e18 => ?_)
    have h := gf_nm_ok e18 h
    refine lv_lstore_n (lv' := [(3, .long a17), (6, .long a10), (0, .ref (hs t0)), (1, .ref (hs t1)), (2, .int x2), (5, .int x5)]) hx hb gd_Whole_shiftUp_47 rfl hl (by decide) rfl (fun ls hl => ?_)
    obtain ⟨a19, e20⟩ : ∃ y : Int32, y = x5 + 1 := ⟨_, rfl⟩
    have h := gf_nm_ok e20 h
    refine lv_iinc (v := a19) (lv' := [(5, .int a19), (3, .long a17), (6, .long a10), (0, .ref (hs t0)), (1, .ref (hs t1)), (2, .int x2)]) hx hb gd_Whole_shiftUp_48 hl (k := 5) rfl (by rw [e20]; rfl) (by decide) rfl (fun ls hl => ?_)
    refine lv_goto (tgt := 5) hx hb gd_Whole_shiftUp_51 (by decide) ?_
    exact k_5 u15 t0 t1 x2 a17 a19 _ _ _ o_t0 o_t1 hW (lv_sub hl [3, 4, 5, 1, 0] rfl) h
set_option maxHeartbeats 4000000 in
set_option maxRecDepth 20000 in
theorem gx_Whole_shiftUp_L5 {p : Program} {l : Launch} {e : Env} {s : State} {m : MethodId} {args : Array Value} {below : List Frame} {meth : Method} {c : Code} {D : va_G} {cA : Nat → ClassId} {hs : Nat → Nat} {z : gw_Sh} (F : Nat) {r0 : gw_St} (C : gw_Cx p s m args c gb_Whole_shiftUp 8 R_Whole D cA) (hr : meth.sig.returnType = none) (hk : meth.locks = false) : ∀ (n : Nat), ∀ (u : gw_St) (t0 : Nat) (t1 : Nat) (x2 : Int32) (y3 : Int64) (x5 : Int32) (H : Heap) (locs : List Loc) (ls : Array Slot), gw_ok z t0 8 → gw_ok z t1 8 → gw_Wx D cA hs z s u H locs → lv_has ls 8 [(0, .ref (hs t0)), (1, .ref (hs t1)), (2, .int x2), (3, .long y3), (5, .int x5)] → gf_Whole_shiftUp_L5 F z  n u t0 t1 x2 y3 x5 = some r0 → gw_Gv p l e gr_Whole_shiftUp s m args below meth c D cA hs z r0 H locs ls 5 [] := by
  intro n
  induction n with
  | zero =>
    intro u t0 t1 x2 y3 x5 H locs ls o_t0 o_t1 hW hl h
    cases h
  | succ n ih =>
    intro u t0 t1 x2 y3 x5 H locs ls o_t0 o_t1 hW hl h
    exact gx_Whole_shiftUp_S5 F C hr hk  ih u t0 t1 x2 y3 x5 o_t0 o_t1 hW hl h

set_option maxHeartbeats 4000000 in
set_option maxRecDepth 20000 in
theorem gx_Whole_shiftUp_b0 {p : Program} {l : Launch} {e : Env} {s : State} {m : MethodId} {args : Array Value} {below : List Frame} {meth : Method} {c : Code} {D : va_G} {cA : Nat → ClassId} {hs : Nat → Nat} {z : gw_Sh} (F : Nat) {r0 : gw_St} (C : gw_Cx p s m args c gb_Whole_shiftUp 8 R_Whole D cA) (hr : meth.sig.returnType = none) (hk : meth.locks = false) (u : gw_St) (t0 : Nat) (t1 : Nat) (x2 : Int32) (o_t0 : gw_ok z t0 8) (o_t1 : gw_ok z t1 8) {H : Heap} {locs : List Loc} {ls : Array Slot} (hW : gw_Wx D cA hs z s u H locs) (hl : lv_has ls 8 [(0, .ref (hs t0)), (1, .ref (hs t1)), (2, .int x2)]) (h : gf_Whole_shiftUp_b0 F z   u t0 t1 x2 = some r0) : gw_Gv p l e gr_Whole_shiftUp s m args below meth c D cA hs z r0 H locs ls 0 [] := by
  obtain ⟨hx, hb, hml, hown, hts, hK⟩ := id C
  unfold gf_Whole_shiftUp_b0 at h
  refine lv_lconst (v := 0) hx hb gd_Whole_shiftUp_0 (by decide) ?_
  refine lv_lstore_n (lv' := [(3, .long 0), (0, .ref (hs t0)), (1, .ref (hs t1)), (2, .int x2)]) hx hb gd_Whole_shiftUp_1 rfl hl (by decide) rfl (fun ls hl => ?_)
  refine lv_iconst (v := 0) hx hb gd_Whole_shiftUp_2 (by decide) ?_
  refine lv_istore (lv' := [(5, .int 0), (3, .long 0), (0, .ref (hs t0)), (1, .ref (hs t1)), (2, .int x2)]) hx hb gd_Whole_shiftUp_3 hl (by decide) rfl (fun ls hl => ?_)
  exact gx_Whole_shiftUp_L5 F C hr hk  F u t0 t1 x2 0 0 _ _ _ o_t0 o_t1 hW (lv_sub hl [2, 3, 4, 1, 0] rfl) h

set_option maxRecDepth 20000 in
theorem gc_Whole_shiftUp (l : Launch) {D : va_G} {cA : Nat → ClassId} {hs : Nat → Nat} {z : gw_Sh} (F : Nat) {u : gw_St} {r0 : gw_St} {t0 : Nat} {t1 : Nat} {x2 : Int32} (o_t0 : gw_ok z t0 8) (o_t1 : gw_ok z t1 8) (h : gf_Whole_shiftUp F z u t0 t1 x2 = some r0) (sz : Nat) : gw_Mv l gy_Whole_shiftUp gb_Whole_shiftUp 8 none gr_Whole_shiftUp [.ref (hs t0), .ref (hs t1), .int x2] D cA hs z u sz r0 := by
  refine gw_enter (by decide) (Nat.le_of_ble_eq_true rfl) ?_
  intro p e s m below meth c ls hsz C hW hr hk _ hl
  subst hsz
  exact gx_Whole_shiftUp_b0 F C hr hk u t0 t1 x2 o_t0 o_t1 hW (lv_sub hl [0, 1, 2] rfl) h
-- GearDesk$Whole.shiftDown(II)V
def gy_Whole_shiftDown : MethodName := ⟨R_Whole, "shiftDown", "(II)V"⟩
abbrev gb_Whole_shiftDown : ByteArray := prog_8_method_11_code
theorem gk_53 : Cond.code gy_Whole_shiftDown gb_Whole_shiftDown 6 none ∈ gt_T := gt_m5 (List.mem_of_getElem? (i := 133) rfl) rfl
def gr_Whole_shiftDown : Room := gw_rm 1 64
theorem gm_Whole_shiftDown : gw_Mth gy_Whole_shiftDown gb_Whole_shiftDown 6 none 2 := ⟨gk_53, gk_16, ⟨by decide +kernel, by decide +kernel⟩, by decide +kernel⟩
theorem gd_Whole_shiftDown_0 : decode gb_Whole_shiftDown 0 = .ok (.iconst 0, 1) := by decide +kernel
theorem gd_Whole_shiftDown_1 : decode gb_Whole_shiftDown 1 = .ok (.istore_n 3, 1) := by decide +kernel
theorem gd_Whole_shiftDown_2 : decode gb_Whole_shiftDown 2 = .ok (.iload_n 3, 1) := by decide +kernel
theorem gd_Whole_shiftDown_3 : decode gb_Whole_shiftDown 3 = .ok (.iload_n 1, 1) := by decide +kernel
theorem gd_Whole_shiftDown_4 : decode gb_Whole_shiftDown 4 = .ok (.if_icmp .ge 57, 3) := by decide +kernel
theorem gd_Whole_shiftDown_7 : decode gb_Whole_shiftDown 7 = .ok (.iload_n 3, 1) := by decide +kernel
theorem gd_Whole_shiftDown_8 : decode gb_Whole_shiftDown 8 = .ok (.iconst 1, 1) := by decide +kernel
theorem gd_Whole_shiftDown_9 : decode gb_Whole_shiftDown 9 = .ok (.iadd, 1) := by decide +kernel
theorem gd_Whole_shiftDown_10 : decode gb_Whole_shiftDown 10 = .ok (.iload_n 1, 1) := by decide +kernel
theorem gd_Whole_shiftDown_11 : decode gb_Whole_shiftDown 11 = .ok (.if_icmp .ge 15, 3) := by decide +kernel
theorem gd_Whole_shiftDown_14 : decode gb_Whole_shiftDown 14 = .ok (.aload_n 0, 1) := by decide +kernel
theorem gd_Whole_shiftDown_15 : decode gb_Whole_shiftDown 15 = .ok (.getfield 9, 3) := by decide +kernel
theorem gd_Whole_shiftDown_18 : decode gb_Whole_shiftDown 18 = .ok (.iload_n 3, 1) := by decide +kernel
theorem gd_Whole_shiftDown_19 : decode gb_Whole_shiftDown 19 = .ok (.iconst 1, 1) := by decide +kernel
theorem gd_Whole_shiftDown_20 : decode gb_Whole_shiftDown 20 = .ok (.iadd, 1) := by decide +kernel
theorem gd_Whole_shiftDown_21 : decode gb_Whole_shiftDown 21 = .ok (.iaload, 1) := by decide +kernel
theorem gd_Whole_shiftDown_22 : decode gb_Whole_shiftDown 22 = .ok (.i2l, 1) := by decide +kernel
theorem gd_Whole_shiftDown_23 : decode gb_Whole_shiftDown 23 = .ok (.goto 4, 3) := by decide +kernel
theorem gd_Whole_shiftDown_26 : decode gb_Whole_shiftDown 26 = .ok (.lconst 0, 1) := by decide +kernel
theorem gd_Whole_shiftDown_27 : decode gb_Whole_shiftDown 27 = .ok (.lstore 4, 2) := by decide +kernel
theorem gd_Whole_shiftDown_29 : decode gb_Whole_shiftDown 29 = .ok (.aload_n 0, 1) := by decide +kernel
theorem gd_Whole_shiftDown_30 : decode gb_Whole_shiftDown 30 = .ok (.getfield 9, 3) := by decide +kernel
theorem gd_Whole_shiftDown_33 : decode gb_Whole_shiftDown 33 = .ok (.iload_n 3, 1) := by decide +kernel
theorem gd_Whole_shiftDown_34 : decode gb_Whole_shiftDown 34 = .ok (.lload 4, 2) := by decide +kernel
theorem gd_Whole_shiftDown_36 : decode gb_Whole_shiftDown 36 = .ok (.bipush 31, 2) := by decide +kernel
theorem gd_Whole_shiftDown_38 : decode gb_Whole_shiftDown 38 = .ok (.lshl, 1) := by decide +kernel
theorem gd_Whole_shiftDown_39 : decode gb_Whole_shiftDown 39 = .ok (.aload_n 0, 1) := by decide +kernel
theorem gd_Whole_shiftDown_40 : decode gb_Whole_shiftDown 40 = .ok (.getfield 9, 3) := by decide +kernel
theorem gd_Whole_shiftDown_43 : decode gb_Whole_shiftDown 43 = .ok (.iload_n 3, 1) := by decide +kernel
theorem gd_Whole_shiftDown_44 : decode gb_Whole_shiftDown 44 = .ok (.iaload, 1) := by decide +kernel
theorem gd_Whole_shiftDown_45 : decode gb_Whole_shiftDown 45 = .ok (.i2l, 1) := by decide +kernel
theorem gd_Whole_shiftDown_46 : decode gb_Whole_shiftDown 46 = .ok (.lor, 1) := by decide +kernel
theorem gd_Whole_shiftDown_47 : decode gb_Whole_shiftDown 47 = .ok (.iload_n 2, 1) := by decide +kernel
theorem gd_Whole_shiftDown_48 : decode gb_Whole_shiftDown 48 = .ok (.lshr, 1) := by decide +kernel
theorem gd_Whole_shiftDown_49 : decode gb_Whole_shiftDown 49 = .ok (.ldc2_w 19, 3) := by decide +kernel
theorem gd_Whole_shiftDown_52 : decode gb_Whole_shiftDown 52 = .ok (.land, 1) := by decide +kernel
theorem gd_Whole_shiftDown_53 : decode gb_Whole_shiftDown 53 = .ok (.l2i, 1) := by decide +kernel
theorem gd_Whole_shiftDown_54 : decode gb_Whole_shiftDown 54 = .ok (.iastore, 1) := by decide +kernel
theorem gd_Whole_shiftDown_55 : decode gb_Whole_shiftDown 55 = .ok (.iinc 3 1, 3) := by decide +kernel
theorem gd_Whole_shiftDown_58 : decode gb_Whole_shiftDown 58 = .ok (.goto (-56), 3) := by decide +kernel
theorem gd_Whole_shiftDown_61 : decode gb_Whole_shiftDown 61 = .ok (.return_, 1) := by decide +kernel
def gf_Whole_shiftDown_b27 (F : Nat) (z : gw_Sh) (rc_2 : gw_St → Nat → Int32 → Int32 → Int32 → Option gw_St) (u : gw_St) (t0 : Nat) (x1 : Int32) (x2 : Int32) (x3 : Int32) (sy0 : Int64) : Option gw_St :=
  gf_nn (u.2.2 t0 0) fun q1 => gf_nn (u.2.2 t0 0) fun q3 => if (x3 < 0 ∨ z.2.2 q3 ≤ (x3).toNatClampNeg) then none else if (x3 < 0 ∨ z.2.2 q1 ≤ (x3).toNatClampNeg) then none else gf_nm (gw_wi u q1 (x3).toNatClampNeg ((((((sy0 <<< (((31 : Int32)).toInt64 &&& 63)) ||| (((u.1 q3 (x3).toNatClampNeg)).toInt64)) >>> ((x2).toInt64 &&& 63)) &&& (2147483647 : Int64))).toInt32)) fun u7 => gf_nm (x3 + 1) fun a9 => rc_2 u7 t0 x1 x2 a9
def gf_Whole_shiftDown_S2 (F : Nat) (z : gw_Sh)  (rc_2 : gw_St → Nat → Int32 → Int32 → Int32 → Option gw_St) (u : gw_St) (t0 : Nat) (x1 : Int32) (x2 : Int32) (x3 : Int32) : Option gw_St :=
  if x1 ≤ x3 then (some u) else (if x1 ≤ (x3 + (1 : Int32)) then (gf_Whole_shiftDown_b27 F z rc_2 u t0 x1 x2 x3 0) else (gf_nn (u.2.2 t0 0) fun q13 => if ((x3 + (1 : Int32)) < 0 ∨ z.2.2 q13 ≤ ((x3 + (1 : Int32))).toNatClampNeg) then none else gf_Whole_shiftDown_b27 F z rc_2 u t0 x1 x2 x3 (((u.1 q13 ((x3 + (1 : Int32))).toNatClampNeg)).toInt64)))
def gf_Whole_shiftDown_L2 (F : Nat) (z : gw_Sh)  : Nat → gw_St → Nat → Int32 → Int32 → Int32 → Option gw_St
  | 0 => fun _ _ _ _ _ => none
  | n + 1 => fun u t0 x1 x2 x3 => gf_Whole_shiftDown_S2 F z  (gf_Whole_shiftDown_L2 F z  n) u t0 x1 x2 x3
def gf_Whole_shiftDown_b0 (F : Nat) (z : gw_Sh)  (u : gw_St) (t0 : Nat) (x1 : Int32) (x2 : Int32) : Option gw_St :=
  gf_Whole_shiftDown_L2 F z  F u t0 x1 x2 0
def gf_Whole_shiftDown (F : Nat) (z : gw_Sh) (u : gw_St) (t0 : Nat) (x1 : Int32) (x2 : Int32) : Option gw_St := gf_Whole_shiftDown_b0 F z  u t0 x1 x2
set_option maxHeartbeats 4000000 in
set_option maxRecDepth 20000 in
theorem gx_Whole_shiftDown_b27 {p : Program} {l : Launch} {e : Env} {s : State} {m : MethodId} {args : Array Value} {below : List Frame} {meth : Method} {c : Code} {D : va_G} {cA : Nat → ClassId} {hs : Nat → Nat} {z : gw_Sh} (F : Nat) {r0 : gw_St} (C : gw_Cx p s m args c gb_Whole_shiftDown 6 R_Whole D cA) (hr : meth.sig.returnType = none) (hk : meth.locks = false) {rc_2 : gw_St → Nat → Int32 → Int32 → Int32 → Option gw_St} (k_2 : ∀ (u : gw_St) (t0 : Nat) (x1 : Int32) (x2 : Int32) (x3 : Int32) (H : Heap) (locs : List Loc) (ls : Array Slot), gw_ok z t0 8 → gw_Wx D cA hs z s u H locs → lv_has ls 6 [(0, .ref (hs t0)), (1, .int x1), (2, .int x2), (3, .int x3)] → rc_2 u t0 x1 x2 x3 = some r0 → gw_Gv p l e gr_Whole_shiftDown s m args below meth c D cA hs z r0 H locs ls 2 []) (u : gw_St) (t0 : Nat) (x1 : Int32) (x2 : Int32) (x3 : Int32) (sy0 : Int64) (o_t0 : gw_ok z t0 8) {H : Heap} {locs : List Loc} {ls : Array Slot} (hW : gw_Wx D cA hs z s u H locs) (hl : lv_has ls 6 [(0, .ref (hs t0)), (1, .int x1), (2, .int x2), (3, .int x3)]) (h : gf_Whole_shiftDown_b27 F z rc_2  u t0 x1 x2 x3 sy0 = some r0) : gw_Gv p l e gr_Whole_shiftDown s m args below meth c D cA hs z r0 H locs ls 27 [.long sy0] := by
  obtain ⟨hx, hb, hml, hown, hts, hK⟩ := id C
  unfold gf_Whole_shiftDown_b27 at h
  refine lv_lstore (lv' := [(4, .long sy0), (0, .ref (hs t0)), (1, .int x1), (2, .int x2), (3, .int x3)]) hx hb gd_Whole_shiftDown_27 hl (by decide) rfl (fun ls hl => ?_)
  refine lv_aload_n hx hb gd_Whole_shiftDown_29 rfl (lv_at hl 1 rfl) ?_
  obtain ⟨q1, e2, h⟩ := gf_nn_ok h
  refine gw_getr (k := 0) (ty := 10) (ref := R_Whole) C hW o_t0 (by decide) rfl gi_Whole rfl (by decide) rfl rfl gk_15 gd_Whole_shiftDown_30 e2 ?_
  have o_q1 := hW.ref (d := 10) o_t0 e2 rfl
  refine lv_iload_n hx hb gd_Whole_shiftDown_33 rfl (lv_at hl 4 rfl) ?_
  refine lv_lload hx hb gd_Whole_shiftDown_34 (lv_at hl 0 rfl) ?_
  refine lv_bipush (v := 31) hx hb gd_Whole_shiftDown_36 (by decide) ?_
  refine lv_lshl hx hb gd_Whole_shiftDown_38 rfl ?_
  refine lv_aload_n hx hb gd_Whole_shiftDown_39 rfl (lv_at hl 1 rfl) ?_
  obtain ⟨q3, e4, h⟩ := gf_nn_ok h
  refine gw_getr (k := 0) (ty := 10) (ref := R_Whole) C hW o_t0 (by decide) rfl gi_Whole rfl (by decide) rfl rfl gk_15 gd_Whole_shiftDown_40 e4 ?_
  have o_q3 := hW.ref (d := 10) o_t0 e4 rfl
  refine lv_iload_n hx hb gd_Whole_shiftDown_43 rfl (lv_at hl 4 rfl) ?_
  obtain ⟨g5, h⟩ := gf_if_ok h
  refine gw_iald C hW o_q3 g5 gd_Whole_shiftDown_44 ?_
  refine lv_i2l hx hb gd_Whole_shiftDown_45 rfl ?_
  refine lv_lor hx hb gd_Whole_shiftDown_46 ?_
  refine lv_iload_n hx hb gd_Whole_shiftDown_47 rfl (lv_at hl 3 rfl) ?_
  refine lv_lshr hx hb gd_Whole_shiftDown_48 rfl ?_
  refine lv_ldc2 (v := 2147483647) hx hb hown (hts _ gk_23) gd_Whole_shiftDown_49 ?_
  refine lv_land hx hb gd_Whole_shiftDown_52 ?_
  refine lv_l2i hx hb gd_Whole_shiftDown_53 rfl ?_
  obtain ⟨g6, h⟩ := gf_if_ok h
  refine gw_iast C hW o_q1 g6 gd_Whole_shiftDown_54 (fun u7 H locs e8 hW => ?_)
  have h := gf_nm_ok e8 h
  obtain ⟨a9, e10⟩ : ∃ y : Int32, y = x3 + 1 := ⟨_, rfl⟩
  have h := gf_nm_ok e10 h
  refine lv_iinc (v := a9) (lv' := [(3, .int a9), (4, .long sy0), (0, .ref (hs t0)), (1, .int x1), (2, .int x2)]) hx hb gd_Whole_shiftDown_55 hl (k := 4) rfl (by rw [e10]; rfl) (by decide) rfl (fun ls hl => ?_)
  refine lv_goto (tgt := 2) hx hb gd_Whole_shiftDown_58 (by decide) ?_
  exact k_2 u7 t0 x1 x2 a9 _ _ _ o_t0 hW (lv_sub hl [2, 3, 4, 0] rfl) h

set_option maxHeartbeats 4000000 in
set_option maxRecDepth 20000 in
theorem gx_Whole_shiftDown_S2 {p : Program} {l : Launch} {e : Env} {s : State} {m : MethodId} {args : Array Value} {below : List Frame} {meth : Method} {c : Code} {D : va_G} {cA : Nat → ClassId} {hs : Nat → Nat} {z : gw_Sh} (F : Nat) {r0 : gw_St} (C : gw_Cx p s m args c gb_Whole_shiftDown 6 R_Whole D cA) (hr : meth.sig.returnType = none) (hk : meth.locks = false) {rc_2 : gw_St → Nat → Int32 → Int32 → Int32 → Option gw_St} (k_2 : ∀ (u : gw_St) (t0 : Nat) (x1 : Int32) (x2 : Int32) (x3 : Int32) (H : Heap) (locs : List Loc) (ls : Array Slot), gw_ok z t0 8 → gw_Wx D cA hs z s u H locs → lv_has ls 6 [(0, .ref (hs t0)), (1, .int x1), (2, .int x2), (3, .int x3)] → rc_2 u t0 x1 x2 x3 = some r0 → gw_Gv p l e gr_Whole_shiftDown s m args below meth c D cA hs z r0 H locs ls 2 []) (u : gw_St) (t0 : Nat) (x1 : Int32) (x2 : Int32) (x3 : Int32) (o_t0 : gw_ok z t0 8) {H : Heap} {locs : List Loc} {ls : Array Slot} (hW : gw_Wx D cA hs z s u H locs) (hl : lv_has ls 6 [(0, .ref (hs t0)), (1, .int x1), (2, .int x2), (3, .int x3)]) (h : gf_Whole_shiftDown_S2 F z  rc_2 u t0 x1 x2 x3 = some r0) : gw_Gv p l e gr_Whole_shiftDown s m args below meth c D cA hs z r0 H locs ls 2 [] := by
  obtain ⟨hx, hb, hml, hown, hts, hK⟩ := id C
  unfold gf_Whole_shiftDown_S2 at h
  refine lv_iload_n hx hb gd_Whole_shiftDown_2 rfl (lv_at hl 3 rfl) ?_
  refine lv_iload_n hx hb gd_Whole_shiftDown_3 rfl (lv_at hl 1 rfl) ?_
  refine lv_icmp_ge (tgt := 61) hx hb gd_Whole_shiftDown_4 (by decide) (fun c11 => ?_) (fun c11 => ?_)
  · have h := gf_t c11 h
    obtain rfl := Option.some.inj h
    exact gw_vret C hW hr hk gd_Whole_shiftDown_61
  · have h := gf_f c11 h
    refine lv_iload_n hx hb gd_Whole_shiftDown_7 rfl (lv_at hl 3 rfl) ?_
    refine lv_iconst (v := 1) hx hb gd_Whole_shiftDown_8 (by decide) ?_
    refine lv_iadd hx hb gd_Whole_shiftDown_9 ?_
    refine lv_iload_n hx hb gd_Whole_shiftDown_10 rfl (lv_at hl 1 rfl) ?_
    refine lv_icmp_ge (tgt := 26) hx hb gd_Whole_shiftDown_11 (by decide) (fun c12 => ?_) (fun c12 => ?_)
    · have h := gf_t c12 h
      refine lv_lconst (v := 0) hx hb gd_Whole_shiftDown_26 (by decide) ?_
      exact gx_Whole_shiftDown_b27 F C hr hk k_2 u t0 x1 x2 x3 0 o_t0 hW (lv_sub hl [0, 1, 2, 3] rfl) h
    · have h := gf_f c12 h
      refine lv_aload_n hx hb gd_Whole_shiftDown_14 rfl (lv_at hl 0 rfl) ?_
      obtain ⟨q13, e14, h⟩ := gf_nn_ok h
      refine gw_getr (k := 0) (ty := 10) (ref := R_Whole) C hW o_t0 (by decide) rfl gi_Whole rfl (by decide) rfl rfl gk_15 gd_Whole_shiftDown_15 e14 ?_
      have o_q13 := hW.ref (d := 10) o_t0 e14 rfl
      refine lv_iload_n hx hb gd_Whole_shiftDown_18 rfl (lv_at hl 3 rfl) ?_
      refine lv_iconst (v := 1) hx hb gd_Whole_shiftDown_19 (by decide) ?_
      refine lv_iadd hx hb gd_Whole_shiftDown_20 ?_
      obtain ⟨g15, h⟩ := gf_if_ok h
      refine gw_iald C hW o_q13 g15 gd_Whole_shiftDown_21 ?_
      refine lv_i2l hx hb gd_Whole_shiftDown_22 rfl ?_
      refine lv_goto (tgt := 27) hx hb gd_Whole_shiftDown_23 (by decide) ?_
      exact gx_Whole_shiftDown_b27 F C hr hk k_2 u t0 x1 x2 x3 (((u.1 q13 ((x3 + (1 : Int32))).toNatClampNeg)).toInt64) o_t0 hW (lv_sub hl [0, 1, 2, 3] rfl) h
set_option maxHeartbeats 4000000 in
set_option maxRecDepth 20000 in
theorem gx_Whole_shiftDown_L2 {p : Program} {l : Launch} {e : Env} {s : State} {m : MethodId} {args : Array Value} {below : List Frame} {meth : Method} {c : Code} {D : va_G} {cA : Nat → ClassId} {hs : Nat → Nat} {z : gw_Sh} (F : Nat) {r0 : gw_St} (C : gw_Cx p s m args c gb_Whole_shiftDown 6 R_Whole D cA) (hr : meth.sig.returnType = none) (hk : meth.locks = false) : ∀ (n : Nat), ∀ (u : gw_St) (t0 : Nat) (x1 : Int32) (x2 : Int32) (x3 : Int32) (H : Heap) (locs : List Loc) (ls : Array Slot), gw_ok z t0 8 → gw_Wx D cA hs z s u H locs → lv_has ls 6 [(0, .ref (hs t0)), (1, .int x1), (2, .int x2), (3, .int x3)] → gf_Whole_shiftDown_L2 F z  n u t0 x1 x2 x3 = some r0 → gw_Gv p l e gr_Whole_shiftDown s m args below meth c D cA hs z r0 H locs ls 2 [] := by
  intro n
  induction n with
  | zero =>
    intro u t0 x1 x2 x3 H locs ls o_t0 hW hl h
    cases h
  | succ n ih =>
    intro u t0 x1 x2 x3 H locs ls o_t0 hW hl h
    exact gx_Whole_shiftDown_S2 F C hr hk  ih u t0 x1 x2 x3 o_t0 hW hl h

set_option maxHeartbeats 4000000 in
set_option maxRecDepth 20000 in
theorem gx_Whole_shiftDown_b0 {p : Program} {l : Launch} {e : Env} {s : State} {m : MethodId} {args : Array Value} {below : List Frame} {meth : Method} {c : Code} {D : va_G} {cA : Nat → ClassId} {hs : Nat → Nat} {z : gw_Sh} (F : Nat) {r0 : gw_St} (C : gw_Cx p s m args c gb_Whole_shiftDown 6 R_Whole D cA) (hr : meth.sig.returnType = none) (hk : meth.locks = false) (u : gw_St) (t0 : Nat) (x1 : Int32) (x2 : Int32) (o_t0 : gw_ok z t0 8) {H : Heap} {locs : List Loc} {ls : Array Slot} (hW : gw_Wx D cA hs z s u H locs) (hl : lv_has ls 6 [(0, .ref (hs t0)), (1, .int x1), (2, .int x2)]) (h : gf_Whole_shiftDown_b0 F z   u t0 x1 x2 = some r0) : gw_Gv p l e gr_Whole_shiftDown s m args below meth c D cA hs z r0 H locs ls 0 [] := by
  obtain ⟨hx, hb, hml, hown, hts, hK⟩ := id C
  unfold gf_Whole_shiftDown_b0 at h
  refine lv_iconst (v := 0) hx hb gd_Whole_shiftDown_0 (by decide) ?_
  refine lv_istore_n (lv' := [(3, .int 0), (0, .ref (hs t0)), (1, .int x1), (2, .int x2)]) hx hb gd_Whole_shiftDown_1 rfl hl (by decide) rfl (fun ls hl => ?_)
  exact gx_Whole_shiftDown_L2 F C hr hk  F u t0 x1 x2 0 _ _ _ o_t0 hW (lv_sub hl [1, 2, 3, 0] rfl) h

set_option maxRecDepth 20000 in
theorem gc_Whole_shiftDown (l : Launch) {D : va_G} {cA : Nat → ClassId} {hs : Nat → Nat} {z : gw_Sh} (F : Nat) {u : gw_St} {r0 : gw_St} {t0 : Nat} {x1 : Int32} {x2 : Int32} (o_t0 : gw_ok z t0 8) (h : gf_Whole_shiftDown F z u t0 x1 x2 = some r0) (sz : Nat) : gw_Mv l gy_Whole_shiftDown gb_Whole_shiftDown 6 none gr_Whole_shiftDown [.ref (hs t0), .int x1, .int x2] D cA hs z u sz r0 := by
  refine gw_enter (by decide) (Nat.le_of_ble_eq_true rfl) ?_
  intro p e s m below meth c ls hsz C hW hr hk _ hl
  subst hsz
  exact gx_Whole_shiftDown_b0 F C hr hk u t0 x1 x2 o_t0 hW (lv_sub hl [0, 1, 2] rfl) h
