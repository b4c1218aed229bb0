-- GearDeskModel.thrown()I
theorem gk_376 : Cond.fieldLink R_Model 112 R_Model "thrown" "I" ∈ gt_T := gt_m6 (List.mem_of_getElem? (i := 52) rfl) rfl
theorem gk_377 : Cond.initialized R_Model ∈ gt_T := gt_m1 (List.mem_of_getElem? (i := 13) rfl) rfl
def gy_Model_thrown : MethodName := ⟨R_Model, "thrown", "()I"⟩
abbrev gb_Model_thrown : ByteArray := prog_11_method_2_code
theorem gk_378 : Cond.code gy_Model_thrown gb_Model_thrown 1 (some .int) ∈ gt_T := gt_m6 (List.mem_of_getElem? (i := 203) rfl) rfl
def gr_Model_thrown : Room := gw_rm 1 64
theorem gm_Model_thrown : gw_Mth gy_Model_thrown gb_Model_thrown 1 (some .int) 0 := ⟨gk_378, gk_377, ⟨by decide +kernel, by decide +kernel⟩, by decide +kernel⟩
theorem gd_Model_thrown_0 : decode gb_Model_thrown 0 = .ok (.aload_n 0, 1) := by decide +kernel
theorem gd_Model_thrown_1 : decode gb_Model_thrown 1 = .ok (.getfield 112, 3) := by decide +kernel
theorem gd_Model_thrown_4 : decode gb_Model_thrown 4 = .ok (.ireturn, 1) := by decide +kernel
def gf_Model_thrown_b0 (F : Nat) (z : gw_Sh)  (u : gw_St) (t0 : Nat) : Option (Int32 × gw_St) :=
  some ((u.1 t0 0), u)
def gf_Model_thrown (F : Nat) (z : gw_Sh) (u : gw_St) (t0 : Nat) : Option (Int32 × gw_St) := gf_Model_thrown_b0 F z  u t0
set_option maxHeartbeats 4000000 in
set_option maxRecDepth 20000 in
theorem gx_Model_thrown_b0 {p : Program} {l : Launch} {e : Env} {s : State} {m : MethodId} {args : Array Value} {below : List Frame} {meth : Method} {c : Code} {D : va_G} {cA : Nat → ClassId} {hs : Nat → Nat} {z : gw_Sh} (F : Nat) {r0 : (Int32 × gw_St)} (C : gw_Cx p s m args c gb_Model_thrown 1 R_Model D cA) (hr : meth.sig.returnType = (some .int)) (hk : meth.locks = false) (u : gw_St) (t0 : Nat) (o_t0 : gw_ok z t0 9) {H : Heap} {locs : List Loc} {ls : Array Slot} (hW : gw_Wx D cA hs z s u H locs) (hl : lv_has ls 1 [(0, .ref (hs t0))]) (h : gf_Model_thrown_b0 F z   u t0 = some r0) : gw_Gi p l e gr_Model_thrown s m args below meth c D cA hs z r0 H locs ls 0 [] := by
  obtain ⟨hx, hb, hml, hown, hts, hK⟩ := id C
  unfold gf_Model_thrown_b0 at h
  refine lv_aload_n hx hb gd_Model_thrown_0 rfl (lv_at hl 0 rfl) ?_
  refine gw_geti (k := 0) (ref := R_Model) C hW o_t0 (by decide) rfl gi_Model rfl (by decide) rfl rfl gk_376 gd_Model_thrown_1 ?_
  obtain rfl := Option.some.inj h
  exact gw_iret C hW hr hk gd_Model_thrown_4

set_option maxRecDepth 20000 in
theorem gc_Model_thrown (l : Launch) {D : va_G} {cA : Nat → ClassId} {hs : Nat → Nat} {z : gw_Sh} (F : Nat) {u : gw_St} {r0 : (Int32 × gw_St)} {t0 : Nat} (o_t0 : gw_ok z t0 9) (h : gf_Model_thrown F z u t0 = some r0) (sz : Nat) : gw_Mi l gy_Model_thrown gb_Model_thrown 1 (some .int) gr_Model_thrown [.ref (hs t0)] D cA hs z u sz r0 := by
  refine gw_enter (by decide) (Nat.le_of_ble_eq_true rfl) ?_
  intro p e s m below meth c ls hsz C hW hr hk _ hl
  subst hsz
  exact gx_Model_thrown_b0 F C hr hk u t0 o_t0 hW (lv_sub hl [0] rfl) h
-- GearDeskModel.fail(I)I
def gy_Model_fail : MethodName := ⟨R_Model, "fail", "(I)I"⟩
abbrev gb_Model_fail : ByteArray := prog_11_method_3_code
theorem gk_379 : Cond.code gy_Model_fail gb_Model_fail 2 (some .int) ∈ gt_T := gt_m6 (List.mem_of_getElem? (i := 214) rfl) rfl
def gr_Model_fail : Room := gw_rm 1 64
theorem gm_Model_fail : gw_Mth gy_Model_fail gb_Model_fail 2 (some .int) 1 := ⟨gk_379, gk_377, ⟨by decide +kernel, by decide +kernel⟩, by decide +kernel⟩
theorem gd_Model_fail_0 : decode gb_Model_fail 0 = .ok (.aload_n 0, 1) := by decide +kernel
theorem gd_Model_fail_1 : decode gb_Model_fail 1 = .ok (.iload_n 1, 1) := by decide +kernel
theorem gd_Model_fail_2 : decode gb_Model_fail 2 = .ok (.putfield 112, 3) := by decide +kernel
theorem gd_Model_fail_5 : decode gb_Model_fail 5 = .ok (.iconst 0, 1) := by decide +kernel
theorem gd_Model_fail_6 : decode gb_Model_fail 6 = .ok (.ireturn, 1) := by decide +kernel
def gf_Model_fail_b0 (F : Nat) (z : gw_Sh)  (u : gw_St) (t0 : Nat) (x1 : Int32) : Option (Int32 × gw_St) :=
  gf_nm (gw_wi u t0 0 x1) fun u1 => some ((0 : Int32), u1)
def gf_Model_fail (F : Nat) (z : gw_Sh) (u : gw_St) (t0 : Nat) (x1 : Int32) : Option (Int32 × gw_St) := gf_Model_fail_b0 F z  u t0 x1
set_option maxHeartbeats 4000000 in
set_option maxRecDepth 20000 in
theorem gx_Model_fail_b0 {p : Program} {l : Launch} {e : Env} {s : State} {m : MethodId} {args : Array Value} {below : List Frame} {meth : Method} {c : Code} {D : va_G} {cA : Nat → ClassId} {hs : Nat → Nat} {z : gw_Sh} (F : Nat) {r0 : (Int32 × gw_St)} (C : gw_Cx p s m args c gb_Model_fail 2 R_Model D cA) (hr : meth.sig.returnType = (some .int)) (hk : meth.locks = false) (u : gw_St) (t0 : Nat) (x1 : Int32) (o_t0 : gw_ok z t0 9) {H : Heap} {locs : List Loc} {ls : Array Slot} (hW : gw_Wx D cA hs z s u H locs) (hl : lv_has ls 2 [(0, .ref (hs t0)), (1, .int x1)]) (h : gf_Model_fail_b0 F z   u t0 x1 = some r0) : gw_Gi p l e gr_Model_fail s m args below meth c D cA hs z r0 H locs ls 0 [] := by
  obtain ⟨hx, hb, hml, hown, hts, hK⟩ := id C
  unfold gf_Model_fail_b0 at h
  refine lv_aload_n hx hb gd_Model_fail_0 rfl (lv_at hl 0 rfl) ?_
  refine lv_iload_n hx hb gd_Model_fail_1 rfl (lv_at hl 1 rfl) ?_
  refine gw_puti (k := 0) (ref := R_Model) (fty := .int) C hW o_t0 (by decide) rfl gi_Model rfl (by decide) rfl rfl gk_376 tf_Model tf_Model_ok nm_Model rfl rfl rfl rfl gd_Model_fail_2 (fun u1 H locs e2 hW => ?_)
  have h := gf_nm_ok e2 h
  refine lv_iconst (v := 0) hx hb gd_Model_fail_5 (by decide) ?_
  obtain rfl := Option.some.inj h
  exact gw_iret C hW hr hk gd_Model_fail_6

set_option maxRecDepth 20000 in
theorem gc_Model_fail (l : Launch) {D : va_G} {cA : Nat → ClassId} {hs : Nat → Nat} {z : gw_Sh} (F : Nat) {u : gw_St} {r0 : (Int32 × gw_St)} {t0 : Nat} {x1 : Int32} (o_t0 : gw_ok z t0 9) (h : gf_Model_fail F z u t0 x1 = some r0) (sz : Nat) : gw_Mi l gy_Model_fail gb_Model_fail 2 (some .int) gr_Model_fail [.ref (hs t0), .int x1] D cA hs z u sz r0 := by
  refine gw_enter (by decide) (Nat.le_of_ble_eq_true rfl) ?_
  intro p e s m below meth c ls hsz C hW hr hk _ hl
  subst hsz
  exact gx_Model_fail_b0 F C hr hk u t0 x1 o_t0 hW (lv_sub hl [0, 1] rfl) h
-- GearDeskModel.within(III)Z
def gy_Model_within : MethodName := ⟨R_Model, "within", "(III)Z"⟩
abbrev gb_Model_within : ByteArray := prog_11_method_4_code
theorem gk_380 : Cond.code gy_Model_within gb_Model_within 3 (some .boolean) ∈ gt_T := gt_m6 (List.mem_of_getElem? (i := 210) rfl) rfl
def gr_Model_within : Room := gw_rm 1 64
theorem gm_Model_within : gw_Mth gy_Model_within gb_Model_within 3 (some .boolean) 3 := ⟨gk_380, gk_377, ⟨by decide +kernel, by decide +kernel⟩, by decide +kernel⟩
theorem gd_Model_within_0 : decode gb_Model_within 0 = .ok (.iload_n 0, 1) := by decide +kernel
theorem gd_Model_within_1 : decode gb_Model_within 1 = .ok (.iload_n 1, 1) := by decide +kernel
theorem gd_Model_within_2 : decode gb_Model_within 2 = .ok (.if_icmp .lt 12, 3) := by decide +kernel
theorem gd_Model_within_5 : decode gb_Model_within 5 = .ok (.iload_n 0, 1) := by decide +kernel
theorem gd_Model_within_6 : decode gb_Model_within 6 = .ok (.iload_n 2, 1) := by decide +kernel
theorem gd_Model_within_7 : decode gb_Model_within 7 = .ok (.if_icmp .gt 7, 3) := by decide +kernel
theorem gd_Model_within_10 : decode gb_Model_within 10 = .ok (.iconst 1, 1) := by decide +kernel
theorem gd_Model_within_11 : decode gb_Model_within 11 = .ok (.goto 4, 3) := by decide +kernel
theorem gd_Model_within_14 : decode gb_Model_within 14 = .ok (.iconst 0, 1) := by decide +kernel
theorem gd_Model_within_15 : decode gb_Model_within 15 = .ok (.ireturn, 1) := by decide +kernel
def gf_Model_within_b15 (F : Nat) (z : gw_Sh)  (u : gw_St) (sx0 : Int32) : Option (Int32 × gw_St) :=
  if ¬ (sx0 &&& 1 = sx0) then none else some (sx0, u)
def gf_Model_within_b14 (F : Nat) (z : gw_Sh)  (u : gw_St)  : Option (Int32 × gw_St) :=
  gf_Model_within_b15 F z  u 0
def gf_Model_within_b0 (F : Nat) (z : gw_Sh)  (u : gw_St) (x0 : Int32) (x1 : Int32) (x2 : Int32) : Option (Int32 × gw_St) :=
  if x0 < x1 then (gf_Model_within_b14 F z  u ) else (if x2 < x0 then (gf_Model_within_b14 F z  u ) else (gf_Model_within_b15 F z  u 1))
def gf_Model_within (F : Nat) (z : gw_Sh) (u : gw_St) (x0 : Int32) (x1 : Int32) (x2 : Int32) : Option (Int32 × gw_St) := gf_Model_within_b0 F z  u x0 x1 x2
set_option maxHeartbeats 4000000 in
set_option maxRecDepth 20000 in
theorem gx_Model_within_b15 {p : Program} {l : Launch} {e : Env} {s : State} {m : MethodId} {args : Array Value} {below : List Frame} {meth : Method} {c : Code} {D : va_G} {cA : Nat → ClassId} {hs : Nat → Nat} {z : gw_Sh} (F : Nat) {r0 : (Int32 × gw_St)} (C : gw_Cx p s m args c gb_Model_within 3 R_Model D cA) (hr : meth.sig.returnType = (some .boolean)) (hk : meth.locks = false) (u : gw_St) (sx0 : Int32)  {H : Heap} {locs : List Loc} {ls : Array Slot} (hW : gw_Wx D cA hs z s u H locs) (hl : lv_has ls 3 []) (h : gf_Model_within_b15 F z   u sx0 = some r0) : gw_Gi p l e gr_Model_within s m args below meth c D cA hs z r0 H locs ls 15 [.int sx0] := by
  obtain ⟨hx, hb, hml, hown, hts, hK⟩ := id C
  unfold gf_Model_within_b15 at h
  obtain ⟨g1, h⟩ := gf_if_ok h
  obtain rfl := Option.some.inj h
  exact gw_zret C hW hr (Decidable.not_not.mp g1) hk gd_Model_within_15

set_option maxHeartbeats 4000000 in
set_option maxRecDepth 20000 in
theorem gx_Model_within_b14 {p : Program} {l : Launch} {e : Env} {s : State} {m : MethodId} {args : Array Value} {below : List Frame} {meth : Method} {c : Code} {D : va_G} {cA : Nat → ClassId} {hs : Nat → Nat} {z : gw_Sh} (F : Nat) {r0 : (Int32 × gw_St)} (C : gw_Cx p s m args c gb_Model_within 3 R_Model D cA) (hr : meth.sig.returnType = (some .boolean)) (hk : meth.locks = false) (u : gw_St)   {H : Heap} {locs : List Loc} {ls : Array Slot} (hW : gw_Wx D cA hs z s u H locs) (hl : lv_has ls 3 []) (h : gf_Model_within_b14 F z   u  = some r0) : gw_Gi p l e gr_Model_within s m args below meth c D cA hs z r0 H locs ls 14 [] := by
  obtain ⟨hx, hb, hml, hown, hts, hK⟩ := id C
  unfold gf_Model_within_b14 at h
  refine lv_iconst (v := 0) hx hb gd_Model_within_14 (by decide) ?_
  exact gx_Model_within_b15 F C hr hk  u 0  hW (lv_sub hl [] rfl) h

set_option maxHeartbeats 4000000 in
set_option maxRecDepth 20000 in
theorem gx_Model_within_b0 {p : Program} {l : Launch} {e : Env} {s : State} {m : MethodId} {args : Array Value} {below : List Frame} {meth : Method} {c : Code} {D : va_G} {cA : Nat → ClassId} {hs : Nat → Nat} {z : gw_Sh} (F : Nat) {r0 : (Int32 × gw_St)} (C : gw_Cx p s m args c gb_Model_within 3 R_Model D cA) (hr : meth.sig.returnType = (some .boolean)) (hk : meth.locks = false) (u : gw_St) (x0 : Int32) (x1 : Int32) (x2 : Int32)  {H : Heap} {locs : List Loc} {ls : Array Slot} (hW : gw_Wx D cA hs z s u H locs) (hl : lv_has ls 3 [(0, .int x0), (1, .int x1), (2, .int x2)]) (h : gf_Model_within_b0 F z   u x0 x1 x2 = some r0) : gw_Gi p l e gr_Model_within s m args below meth c D cA hs z r0 H locs ls 0 [] := by
  obtain ⟨hx, hb, hml, hown, hts, hK⟩ := id C
  unfold gf_Model_within_b0 at h
  refine lv_iload_n hx hb gd_Model_within_0 rfl (lv_at hl 0 rfl) ?_
  refine lv_iload_n hx hb gd_Model_within_1 rfl (lv_at hl 1 rfl) ?_
  refine lv_icmp_lt (tgt := 14) hx hb gd_Model_within_2 (by decide) (fun c2 => ?_) (fun c2 => ?_)
  · have h := gf_t c2 h
    exact gx_Model_within_b14 F C hr hk  u   hW (lv_sub hl [] rfl) h
  · have h := gf_f c2 h
    refine lv_iload_n hx hb gd_Model_within_5 rfl (lv_at hl 0 rfl) ?_
    refine lv_iload_n hx hb gd_Model_within_6 rfl (lv_at hl 2 rfl) ?_
    refine lv_icmp_gt (tgt := 14) hx hb gd_Model_within_7 (by decide) (fun c3 => ?_) (fun c3 => ?_)
    · have h := gf_t c3 h
      exact gx_Model_within_b14 F C hr hk  u   hW (lv_sub hl [] rfl) h
    · have h := gf_f c3 h
      refine lv_iconst (v := 1) hx hb gd_Model_within_10 (by decide) ?_
      refine lv_goto (tgt := 15) hx hb gd_Model_within_11 (by decide) ?_
      exact gx_Model_within_b15 F C hr hk  u 1  hW (lv_sub hl [] rfl) h

set_option maxRecDepth 20000 in
theorem gc_Model_within (l : Launch) {D : va_G} {cA : Nat → ClassId} {hs : Nat → Nat} {z : gw_Sh} (F : Nat) {u : gw_St} {r0 : (Int32 × gw_St)} {x0 : Int32} {x1 : Int32} {x2 : Int32}  (h : gf_Model_within F z u x0 x1 x2 = some r0) (sz : Nat) : gw_Mi l gy_Model_within gb_Model_within 3 (some .boolean) gr_Model_within [.int x0, .int x1, .int x2] D cA hs z u sz r0 := by
  refine gw_enter (by decide) (Nat.le_of_ble_eq_true rfl) ?_
  intro p e s m below meth c ls hsz C hW hr hk _ hl
  subst hsz
  exact gx_Model_within_b0 F C hr hk u x0 x1 x2  hW (lv_sub hl [0, 1, 2] rfl) h
-- GearDeskModel.isPrime(I)Z
theorem gk_381 : Cond.constantLong R_Model 117 2 ∈ gt_T := gt_m6 (List.mem_of_getElem? (i := 51) rfl) rfl
theorem gk_382 : Cond.constantLong R_Model 115 3 ∈ gt_T := gt_m6 (List.mem_of_getElem? (i := 50) rfl) rfl
def gy_Model_isPrime : MethodName := ⟨R_Model, "isPrime", "(I)Z"⟩
abbrev gb_Model_isPrime : ByteArray := prog_11_method_5_code
theorem gk_383 : Cond.code gy_Model_isPrime gb_Model_isPrime 3 (some .boolean) ∈ gt_T := gt_m6 (List.mem_of_getElem? (i := 49) rfl) rfl
def gr_Model_isPrime : Room := gw_rm 1 64
theorem gm_Model_isPrime : gw_Mth gy_Model_isPrime gb_Model_isPrime 3 (some .boolean) 1 := ⟨gk_383, gk_377, ⟨by decide +kernel, by decide +kernel⟩, by decide +kernel⟩
theorem gd_Model_isPrime_0 : decode gb_Model_isPrime 0 = .ok (.ldc2_w 115, 3) := by decide +kernel
theorem gd_Model_isPrime_3 : decode gb_Model_isPrime 3 = .ok (.lstore_n 1, 1) := by decide +kernel
theorem gd_Model_isPrime_4 : decode gb_Model_isPrime 4 = .ok (.lload_n 1, 1) := by decide +kernel
theorem gd_Model_isPrime_5 : decode gb_Model_isPrime 5 = .ok (.lload_n 1, 1) := by decide +kernel
theorem gd_Model_isPrime_6 : decode gb_Model_isPrime 6 = .ok (.lmul, 1) := by decide +kernel
theorem gd_Model_isPrime_7 : decode gb_Model_isPrime 7 = .ok (.iload_n 0, 1) := by decide +kernel
theorem gd_Model_isPrime_8 : decode gb_Model_isPrime 8 = .ok (.i2l, 1) := by decide +kernel
theorem gd_Model_isPrime_9 : decode gb_Model_isPrime 9 = .ok (.lcmp, 1) := by decide +kernel
theorem gd_Model_isPrime_10 : decode gb_Model_isPrime 10 = .ok (.ifCond .gt 23, 3) := by decide +kernel
theorem gd_Model_isPrime_13 : decode gb_Model_isPrime 13 = .ok (.iload_n 0, 1) := by decide +kernel
theorem gd_Model_isPrime_14 : decode gb_Model_isPrime 14 = .ok (.i2l, 1) := by decide +kernel
theorem gd_Model_isPrime_15 : decode gb_Model_isPrime 15 = .ok (.lload_n 1, 1) := by decide +kernel
theorem gd_Model_isPrime_16 : decode gb_Model_isPrime 16 = .ok (.lrem, 1) := by decide +kernel
theorem gd_Model_isPrime_17 : decode gb_Model_isPrime 17 = .ok (.lconst 0, 1) := by decide +kernel
theorem gd_Model_isPrime_18 : decode gb_Model_isPrime 18 = .ok (.lcmp, 1) := by decide +kernel
theorem gd_Model_isPrime_19 : decode gb_Model_isPrime 19 = .ok (.ifCond .ne 5, 3) := by decide +kernel
theorem gd_Model_isPrime_22 : decode gb_Model_isPrime 22 = .ok (.iconst 0, 1) := by decide +kernel
theorem gd_Model_isPrime_23 : decode gb_Model_isPrime 23 = .ok (.ireturn, 1) := by decide +kernel
theorem gd_Model_isPrime_24 : decode gb_Model_isPrime 24 = .ok (.lload_n 1, 1) := by decide +kernel
theorem gd_Model_isPrime_25 : decode gb_Model_isPrime 25 = .ok (.ldc2_w 117, 3) := by decide +kernel
theorem gd_Model_isPrime_28 : decode gb_Model_isPrime 28 = .ok (.ladd, 1) := by decide +kernel
theorem gd_Model_isPrime_29 : decode gb_Model_isPrime 29 = .ok (.lstore_n 1, 1) := by decide +kernel
theorem gd_Model_isPrime_30 : decode gb_Model_isPrime 30 = .ok (.goto (-26), 3) := by decide +kernel
theorem gd_Model_isPrime_33 : decode gb_Model_isPrime 33 = .ok (.iconst 1, 1) := by decide +kernel
theorem gd_Model_isPrime_34 : decode gb_Model_isPrime 34 = .ok (.ireturn, 1) := by decide +kernel
def gf_Model_isPrime_S4 (F : Nat) (z : gw_Sh)  (rc_4 : gw_St → Int32 → Int64 → Option (Int32 × gw_St)) (u : gw_St) (x0 : Int32) (y1 : Int64) : Option (Int32 × gw_St) :=
  if 0 < (lg_cmp (y1 * y1) ((x0).toInt64)) then (if ¬ ((1 : Int32) &&& 1 = (1 : Int32)) then none else some ((1 : Int32), u)) else (if y1 = 0 then none else if (lg_cmp (((x0).toInt64) - ((x0).toInt64) / y1 * y1) (0 : Int64)) = 0 then (if ¬ ((0 : Int32) &&& 1 = (0 : Int32)) then none else some ((0 : Int32), u)) else (gf_nm (y1 + (2 : Int64)) fun a5 => rc_4 u x0 a5))
def gf_Model_isPrime_L4 (F : Nat) (z : gw_Sh)  : Nat → gw_St → Int32 → Int64 → Option (Int32 × gw_St)
  | 0 => fun _ _ _ => none
  | n + 1 => fun u x0 y1 => gf_Model_isPrime_S4 F z  (gf_Model_isPrime_L4 F z  n) u x0 y1
def gf_Model_isPrime_b0 (F : Nat) (z : gw_Sh)  (u : gw_St) (x0 : Int32) : Option (Int32 × gw_St) :=
  gf_Model_isPrime_L4 F z  F u x0 3
def gf_Model_isPrime (F : Nat) (z : gw_Sh) (u : gw_St) (x0 : Int32) : Option (Int32 × gw_St) := gf_Model_isPrime_b0 F z  u x0
set_option maxHeartbeats 4000000 in
set_option maxRecDepth 20000 in
theorem gx_Model_isPrime_S4 {p : Program} {l : Launch} {e : Env} {s : State} {m : MethodId} {args : Array Value} {below : List Frame} {meth : Method} {c : Code} {D : va_G} {cA : Nat → ClassId} {hs : Nat → Nat} {z : gw_Sh} (F : Nat) {r0 : (Int32 × gw_St)} (C : gw_Cx p s m args c gb_Model_isPrime 3 R_Model D cA) (hr : meth.sig.returnType = (some .boolean)) (hk : meth.locks = false) {rc_4 : gw_St → Int32 → Int64 → Option (Int32 × gw_St)} (k_4 : ∀ (u : gw_St) (x0 : Int32) (y1 : Int64) (H : Heap) (locs : List Loc) (ls : Array Slot), gw_Wx D cA hs z s u H locs → lv_has ls 3 [(0, .int x0), (1, .long y1)] → rc_4 u x0 y1 = some r0 → gw_Gi p l e gr_Model_isPrime s m args below meth c D cA hs z r0 H locs ls 4 []) (u : gw_St) (x0 : Int32) (y1 : Int64)  {H : Heap} {locs : List Loc} {ls : Array Slot} (hW : gw_Wx D cA hs z s u H locs) (hl : lv_has ls 3 [(0, .int x0), (1, .long y1)]) (h : gf_Model_isPrime_S4 F z  rc_4 u x0 y1 = some r0) : gw_Gi p l e gr_Model_isPrime s m args below meth c D cA hs z r0 H locs ls 4 [] := by
  obtain ⟨hx, hb, hml, hown, hts, hK⟩ := id C
  unfold gf_Model_isPrime_S4 at h
  refine lv_lload_n hx hb gd_Model_isPrime_4 rfl (lv_at hl 1 rfl) ?_
  refine lv_lload_n hx hb gd_Model_isPrime_5 rfl (lv_at hl 1 rfl) ?_
  refine lv_lmul hx hb gd_Model_isPrime_6 ?_
  refine lv_iload_n hx hb gd_Model_isPrime_7 rfl (lv_at hl 0 rfl) ?_
  refine lv_i2l hx hb gd_Model_isPrime_8 rfl ?_
  refine W.lcmp hx hb gd_Model_isPrime_9 ?_
  refine lv_if_gt (tgt := 33) hx hb gd_Model_isPrime_10 (by decide) (fun c1 => ?_) (fun c1 => ?_)
  · have h := gf_t c1 h
    refine lv_iconst (v := 1) hx hb gd_Model_isPrime_33 (by decide) ?_
    obtain ⟨g2, h⟩ := gf_if_ok h
    obtain rfl := Option.some.inj h
    exact gw_zret C hW hr (Decidable.not_not.mp g2) hk gd_Model_isPrime_34
  · have h := gf_f c1 h
    refine lv_iload_n hx hb gd_Model_isPrime_13 rfl (lv_at hl 0 rfl) ?_
    refine lv_i2l hx hb gd_Model_isPrime_14 rfl ?_
    refine lv_lload_n hx hb gd_Model_isPrime_15 rfl (lv_at hl 1 rfl) ?_
    obtain ⟨g3, h⟩ := gf_if_ok h
    refine lv_lrem hx hb gd_Model_isPrime_16 g3 ?_
    refine lv_lconst (v := 0) hx hb gd_Model_isPrime_17 (by decide) ?_
    refine W.lcmp hx hb gd_Model_isPrime_18 ?_
    refine lv_if_ne (tgt := 24) hx hb gd_Model_isPrime_19 (by decide) (fun c4 => ?_) (fun c4 => ?_)
    · have h := gf_f c4 h
      refine lv_lload_n hx hb gd_Model_isPrime_24 rfl (lv_at hl 1 rfl) ?_
      refine lv_ldc2 (v := 2) hx hb hown (hts _ gk_381) gd_Model_isPrime_25 ?_
      refine lv_ladd hx hb gd_Model_isPrime_28 ?_
      refine lv_topl (fun a5 e6 => ?_)
      have h := gf_nm_ok e6 h
      refine lv_lstore_n (lv' := [(1, .long a5), (0, .int x0)]) hx hb gd_Model_isPrime_29 rfl hl (by decide) rfl (fun ls hl => ?_)
      refine lv_goto (tgt := 4) hx hb gd_Model_isPrime_30 (by decide) ?_
      exact k_4 u x0 a5 _ _ _  hW (lv_sub hl [1, 0] rfl) h
    · have h := gf_t c4 h
      refine lv_iconst (v := 0) hx hb gd_Model_isPrime_22 (by decide) ?_
      obtain ⟨g7, h⟩ := gf_if_ok h
      obtain rfl := Option.some.inj h
      exact gw_zret C hW hr (Decidable.not_not.mp g7) hk gd_Model_isPrime_23
set_option maxHeartbeats 4000000 in
set_option maxRecDepth 20000 in
theorem gx_Model_isPrime_L4 {p : Program} {l : Launch} {e : Env} {s : State} {m : MethodId} {args : Array Value} {below : List Frame} {meth : Method} {c : Code} {D : va_G} {cA : Nat → ClassId} {hs : Nat → Nat} {z : gw_Sh} (F : Nat) {r0 : (Int32 × gw_St)} (C : gw_Cx p s m args c gb_Model_isPrime 3 R_Model D cA) (hr : meth.sig.returnType = (some .boolean)) (hk : meth.locks = false) : ∀ (n : Nat), ∀ (u : gw_St) (x0 : Int32) (y1 : Int64) (H : Heap) (locs : List Loc) (ls : Array Slot), gw_Wx D cA hs z s u H locs → lv_has ls 3 [(0, .int x0), (1, .long y1)] → gf_Model_isPrime_L4 F z  n u x0 y1 = some r0 → gw_Gi p l e gr_Model_isPrime s m args below meth c D cA hs z r0 H locs ls 4 [] := by
  intro n
  induction n with
  | zero =>
    intro u x0 y1 H locs ls  hW hl h
    cases h
  | succ n ih =>
    intro u x0 y1 H locs ls  hW hl h
    exact gx_Model_isPrime_S4 F C hr hk  ih u x0 y1  hW hl h

set_option maxHeartbeats 4000000 in
set_option maxRecDepth 20000 in
theorem gx_Model_isPrime_b0 {p : Program} {l : Launch} {e : Env} {s : State} {m : MethodId} {args : Array Value} {below : List Frame} {meth : Method} {c : Code} {D : va_G} {cA : Nat → ClassId} {hs : Nat → Nat} {z : gw_Sh} (F : Nat) {r0 : (Int32 × gw_St)} (C : gw_Cx p s m args c gb_Model_isPrime 3 R_Model D cA) (hr : meth.sig.returnType = (some .boolean)) (hk : meth.locks = false) (u : gw_St) (x0 : Int32)  {H : Heap} {locs : List Loc} {ls : Array Slot} (hW : gw_Wx D cA hs z s u H locs) (hl : lv_has ls 3 [(0, .int x0)]) (h : gf_Model_isPrime_b0 F z   u x0 = some r0) : gw_Gi p l e gr_Model_isPrime s m args below meth c D cA hs z r0 H locs ls 0 [] := by
  obtain ⟨hx, hb, hml, hown, hts, hK⟩ := id C
  unfold gf_Model_isPrime_b0 at h
  refine lv_ldc2 (v := 3) hx hb hown (hts _ gk_382) gd_Model_isPrime_0 ?_
  refine lv_lstore_n (lv' := [(1, .long 3), (0, .int x0)]) hx hb gd_Model_isPrime_3 rfl hl (by decide) rfl (fun ls hl => ?_)
  exact gx_Model_isPrime_L4 F C hr hk  F u x0 3 _ _ _  hW (lv_sub hl [1, 0] rfl) h

set_option maxRecDepth 20000 in
theorem gc_Model_isPrime (l : Launch) {D : va_G} {cA : Nat → ClassId} {hs : Nat → Nat} {z : gw_Sh} (F : Nat) {u : gw_St} {r0 : (Int32 × gw_St)} {x0 : Int32}  (h : gf_Model_isPrime F z u x0 = some r0) (sz : Nat) : gw_Mi l gy_Model_isPrime gb_Model_isPrime 3 (some .boolean) gr_Model_isPrime [.int x0] D cA hs z u sz r0 := by
  refine gw_enter (by decide) (Nat.le_of_ble_eq_true rfl) ?_
  intro p e s m below meth c ls hsz C hW hr hk _ hl
  subst hsz
  exact gx_Model_isPrime_b0 F C hr hk u x0  hW (lv_sub hl [0] rfl) h
-- GearDeskModel.ways(II)I
def gy_Model_ways : MethodName := ⟨R_Model, "ways", "(II)I"⟩
abbrev gb_Model_ways : ByteArray := prog_11_method_6_code
theorem gk_384 : Cond.code gy_Model_ways gb_Model_ways 2 (some .int) ∈ gt_T := gt_m6 (List.mem_of_getElem? (i := 217) rfl) rfl
def gr_Model_ways : Room := gw_rm 1 64
theorem gm_Model_ways : gw_Mth gy_Model_ways gb_Model_ways 2 (some .int) 2 := ⟨gk_384, gk_377, ⟨by decide +kernel, by decide +kernel⟩, by decide +kernel⟩
theorem gd_Model_ways_0 : decode gb_Model_ways 0 = .ok (.iload_n 1, 1) := by decide +kernel
theorem gd_Model_ways_1 : decode gb_Model_ways 1 = .ok (.iconst 1, 1) := by decide +kernel
theorem gd_Model_ways_2 : decode gb_Model_ways 2 = .ok (.if_icmp .ne 7, 3) := by decide +kernel
theorem gd_Model_ways_5 : decode gb_Model_ways 5 = .ok (.iload_n 0, 1) := by decide +kernel
theorem gd_Model_ways_6 : decode gb_Model_ways 6 = .ok (.goto 56, 3) := by decide +kernel
theorem gd_Model_ways_9 : decode gb_Model_ways 9 = .ok (.iload_n 1, 1) := by decide +kernel
theorem gd_Model_ways_10 : decode gb_Model_ways 10 = .ok (.iconst 2, 1) := by decide +kernel
theorem gd_Model_ways_11 : decode gb_Model_ways 11 = .ok (.if_icmp .ne 13, 3) := by decide +kernel
theorem gd_Model_ways_14 : decode gb_Model_ways 14 = .ok (.iload_n 0, 1) := by decide +kernel
theorem gd_Model_ways_15 : decode gb_Model_ways 15 = .ok (.iload_n 0, 1) := by decide +kernel
theorem gd_Model_ways_16 : decode gb_Model_ways 16 = .ok (.iconst 1, 1) := by decide +kernel
theorem gd_Model_ways_17 : decode gb_Model_ways 17 = .ok (.iadd, 1) := by decide +kernel
theorem gd_Model_ways_18 : decode gb_Model_ways 18 = .ok (.imul, 1) := by decide +kernel
theorem gd_Model_ways_19 : decode gb_Model_ways 19 = .ok (.iconst 2, 1) := by decide +kernel
theorem gd_Model_ways_20 : decode gb_Model_ways 20 = .ok (.idiv, 1) := by decide +kernel
theorem gd_Model_ways_21 : decode gb_Model_ways 21 = .ok (.goto 41, 3) := by decide +kernel
theorem gd_Model_ways_24 : decode gb_Model_ways 24 = .ok (.iload_n 1, 1) := by decide +kernel
theorem gd_Model_ways_25 : decode gb_Model_ways 25 = .ok (.iconst 3, 1) := by decide +kernel
theorem gd_Model_ways_26 : decode gb_Model_ways 26 = .ok (.if_icmp .ne 18, 3) := by decide +kernel
theorem gd_Model_ways_29 : decode gb_Model_ways 29 = .ok (.iload_n 0, 1) := by decide +kernel
theorem gd_Model_ways_30 : decode gb_Model_ways 30 = .ok (.iload_n 0, 1) := by decide +kernel
theorem gd_Model_ways_31 : decode gb_Model_ways 31 = .ok (.iconst 1, 1) := by decide +kernel
theorem gd_Model_ways_32 : decode gb_Model_ways 32 = .ok (.iadd, 1) := by decide +kernel
theorem gd_Model_ways_33 : decode gb_Model_ways 33 = .ok (.imul, 1) := by decide +kernel
theorem gd_Model_ways_34 : decode gb_Model_ways 34 = .ok (.iload_n 0, 1) := by decide +kernel
theorem gd_Model_ways_35 : decode gb_Model_ways 35 = .ok (.iconst 2, 1) := by decide +kernel
theorem gd_Model_ways_36 : decode gb_Model_ways 36 = .ok (.iadd, 1) := by decide +kernel
theorem gd_Model_ways_37 : decode gb_Model_ways 37 = .ok (.imul, 1) := by decide +kernel
theorem gd_Model_ways_38 : decode gb_Model_ways 38 = .ok (.bipush 6, 2) := by decide +kernel
theorem gd_Model_ways_40 : decode gb_Model_ways 40 = .ok (.idiv, 1) := by decide +kernel
theorem gd_Model_ways_41 : decode gb_Model_ways 41 = .ok (.goto 21, 3) := by decide +kernel
theorem gd_Model_ways_44 : decode gb_Model_ways 44 = .ok (.iload_n 0, 1) := by decide +kernel
theorem gd_Model_ways_45 : decode gb_Model_ways 45 = .ok (.iload_n 0, 1) := by decide +kernel
theorem gd_Model_ways_46 : decode gb_Model_ways 46 = .ok (.iconst 1, 1) := by decide +kernel
theorem gd_Model_ways_47 : decode gb_Model_ways 47 = .ok (.iadd, 1) := by decide +kernel
theorem gd_Model_ways_48 : decode gb_Model_ways 48 = .ok (.imul, 1) := by decide +kernel
theorem gd_Model_ways_49 : decode gb_Model_ways 49 = .ok (.iconst 2, 1) := by decide +kernel
theorem gd_Model_ways_50 : decode gb_Model_ways 50 = .ok (.idiv, 1) := by decide +kernel
theorem gd_Model_ways_51 : decode gb_Model_ways 51 = .ok (.iload_n 0, 1) := by decide +kernel
theorem gd_Model_ways_52 : decode gb_Model_ways 52 = .ok (.iconst 2, 1) := by decide +kernel
theorem gd_Model_ways_53 : decode gb_Model_ways 53 = .ok (.iadd, 1) := by decide +kernel
theorem gd_Model_ways_54 : decode gb_Model_ways 54 = .ok (.imul, 1) := by decide +kernel
theorem gd_Model_ways_55 : decode gb_Model_ways 55 = .ok (.iload_n 0, 1) := by decide +kernel
theorem gd_Model_ways_56 : decode gb_Model_ways 56 = .ok (.iconst 3, 1) := by decide +kernel
theorem gd_Model_ways_57 : decode gb_Model_ways 57 = .ok (.iadd, 1) := by decide +kernel
theorem gd_Model_ways_58 : decode gb_Model_ways 58 = .ok (.imul, 1) := by decide +kernel
theorem gd_Model_ways_59 : decode gb_Model_ways 59 = .ok (.bipush 12, 2) := by decide +kernel
theorem gd_Model_ways_61 : decode gb_Model_ways 61 = .ok (.idiv, 1) := by decide +kernel
theorem gd_Model_ways_62 : decode gb_Model_ways 62 = .ok (.ireturn, 1) := by decide +kernel
def gf_Model_ways_b62 (F : Nat) (z : gw_Sh)  (u : gw_St) (sx0 : Int32) : Option (Int32 × gw_St) :=
  some (sx0, u)
def gf_Model_ways_b0 (F : Nat) (z : gw_Sh)  (u : gw_St) (x0 : Int32) (x1 : Int32) : Option (Int32 × gw_St) :=
  if x1 = (1 : Int32) then (gf_Model_ways_b62 F z  u x0) else (if x1 = (2 : Int32) then (if (2 : Int32) = 0 then none else gf_Model_ways_b62 F z  u ((x0 * (x0 + (1 : Int32))) / (2 : Int32))) else (if x1 = (3 : Int32) then (if (6 : Int32) = 0 then none else gf_Model_ways_b62 F z  u (((x0 * (x0 + (1 : Int32))) * (x0 + (2 : Int32))) / (6 : Int32))) else (if (2 : Int32) = 0 then none else if (12 : Int32) = 0 then none else gf_Model_ways_b62 F z  u (((((x0 * (x0 + (1 : Int32))) / (2 : Int32)) * (x0 + (2 : Int32))) * (x0 + (3 : Int32))) / (12 : Int32)))))
def gf_Model_ways (F : Nat) (z : gw_Sh) (u : gw_St) (x0 : Int32) (x1 : Int32) : Option (Int32 × gw_St) := gf_Model_ways_b0 F z  u x0 x1
set_option maxHeartbeats 4000000 in
set_option maxRecDepth 20000 in
theorem gx_Model_ways_b62 {p : Program} {l : Launch} {e : Env} {s : State} {m : MethodId} {args : Array Value} {below : List Frame} {meth : Method} {c : Code} {D : va_G} {cA : Nat → ClassId} {hs : Nat → Nat} {z : gw_Sh} (F : Nat) {r0 : (Int32 × gw_St)} (C : gw_Cx p s m args c gb_Model_ways 2 R_Model D cA) (hr : meth.sig.returnType = (some .int)) (hk : meth.locks = false) (u : gw_St) (sx0 : Int32)  {H : Heap} {locs : List Loc} {ls : Array Slot} (hW : gw_Wx D cA hs z s u H locs) (hl : lv_has ls 2 []) (h : gf_Model_ways_b62 F z   u sx0 = some r0) : gw_Gi p l e gr_Model_ways s m args below meth c D cA hs z r0 H locs ls 62 [.int sx0] := by
  obtain ⟨hx, hb, hml, hown, hts, hK⟩ := id C
  unfold gf_Model_ways_b62 at h
  obtain rfl := Option.some.inj h
  exact gw_iret C hW hr hk gd_Model_ways_62

set_option maxHeartbeats 4000000 in
set_option maxRecDepth 20000 in
theorem gx_Model_ways_b0 {p : Program} {l : Launch} {e : Env} {s : State} {m : MethodId} {args : Array Value} {below : List Frame} {meth : Method} {c : Code} {D : va_G} {cA : Nat → ClassId} {hs : Nat → Nat} {z : gw_Sh} (F : Nat) {r0 : (Int32 × gw_St)} (C : gw_Cx p s m args c gb_Model_ways 2 R_Model D cA) (hr : meth.sig.returnType = (some .int)) (hk : meth.locks = false) (u : gw_St) (x0 : Int32) (x1 : Int32)  {H : Heap} {locs : List Loc} {ls : Array Slot} (hW : gw_Wx D cA hs z s u H locs) (hl : lv_has ls 2 [(0, .int x0), (1, .int x1)]) (h : gf_Model_ways_b0 F z   u x0 x1 = some r0) : gw_Gi p l e gr_Model_ways s m args below meth c D cA hs z r0 H locs ls 0 [] := by
  obtain ⟨hx, hb, hml, hown, hts, hK⟩ := id C
  unfold gf_Model_ways_b0 at h
  refine lv_iload_n hx hb gd_Model_ways_0 rfl (lv_at hl 1 rfl) ?_
  refine lv_iconst (v := 1) hx hb gd_Model_ways_1 (by decide) ?_
  refine lv_icmp_ne (tgt := 9) hx hb gd_Model_ways_2 (by decide) (fun c1 => ?_) (fun c1 => ?_)
  · have h := gf_f c1 h
    refine lv_iload_n hx hb gd_Model_ways_9 rfl (lv_at hl 1 rfl) ?_
    refine lv_iconst (v := 2) hx hb gd_Model_ways_10 (by decide) ?_
    refine lv_icmp_ne (tgt := 24) hx hb gd_Model_ways_11 (by decide) (fun c2 => ?_) (fun c2 => ?_)
    · have h := gf_f c2 h
      refine lv_iload_n hx hb gd_Model_ways_24 rfl (lv_at hl 1 rfl) ?_
      refine lv_iconst (v := 3) hx hb gd_Model_ways_25 (by decide) ?_
      refine lv_icmp_ne (tgt := 44) hx hb gd_Model_ways_26 (by decide) (fun c3 => ?_) (fun c3 => ?_)
      · have h := gf_f c3 h
        refine lv_iload_n hx hb gd_Model_ways_44 rfl (lv_at hl 0 rfl) ?_
        refine lv_iload_n hx hb gd_Model_ways_45 rfl (lv_at hl 0 rfl) ?_
        refine lv_iconst (v := 1) hx hb gd_Model_ways_46 (by decide) ?_
        refine lv_iadd hx hb gd_Model_ways_47 ?_
        refine lv_imul hx hb gd_Model_ways_48 ?_
        refine lv_iconst (v := 2) hx hb gd_Model_ways_49 (by decide) ?_
        obtain ⟨g4, h⟩ := gf_if_ok h
        refine lv_idiv hx hb gd_Model_ways_50 g4 ?_
        refine lv_iload_n hx hb gd_Model_ways_51 rfl (lv_at hl 0 rfl) ?_
        refine lv_iconst (v := 2) hx hb gd_Model_ways_52 (by decide) ?_
        refine lv_iadd hx hb gd_Model_ways_53 ?_
        refine lv_imul hx hb gd_Model_ways_54 ?_
        refine lv_iload_n hx hb gd_Model_ways_55 rfl (lv_at hl 0 rfl) ?_
        refine lv_iconst (v := 3) hx hb gd_Model_ways_56 (by decide) ?_
        refine lv_iadd hx hb gd_Model_ways_57 ?_
        refine lv_imul hx hb gd_Model_ways_58 ?_
        refine lv_bipush (v := 12) hx hb gd_Model_ways_59 (by decide) ?_
        obtain ⟨g5, h⟩ := gf_if_ok h
        refine lv_idiv hx hb gd_Model_ways_61 g5 ?_
        exact gx_Model_ways_b62 F C hr hk  u (((((x0 * (x0 + (1 : Int32))) / (2 : Int32)) * (x0 + (2 : Int32))) * (x0 + (3 : Int32))) / (12 : Int32))  hW (lv_sub hl [] rfl) h
      · have h := gf_t c3 h
        refine lv_iload_n hx hb gd_Model_ways_29 rfl (lv_at hl 0 rfl) ?_
        refine lv_iload_n hx hb gd_Model_ways_30 rfl (lv_at hl 0 rfl) ?_
        refine lv_iconst (v := 1) hx hb gd_Model_ways_31 (by decide) ?_
        refine lv_iadd hx hb gd_Model_ways_32 ?_
        refine lv_imul hx hb gd_Model_ways_33 ?_
        refine lv_iload_n hx hb gd_Model_ways_34 rfl (lv_at hl 0 rfl) ?_
        refine lv_iconst (v := 2) hx hb gd_Model_ways_35 (by decide) ?_
        refine lv_iadd hx hb gd_Model_ways_36 ?_
        refine lv_imul hx hb gd_Model_ways_37 ?_
        refine lv_bipush (v := 6) hx hb gd_Model_ways_38 (by decide) ?_
        obtain ⟨g6, h⟩ := gf_if_ok h
        refine lv_idiv hx hb gd_Model_ways_40 g6 ?_
        refine lv_goto (tgt := 62) hx hb gd_Model_ways_41 (by decide) ?_
        exact gx_Model_ways_b62 F C hr hk  u (((x0 * (x0 + (1 : Int32))) * (x0 + (2 : Int32))) / (6 : Int32))  hW (lv_sub hl [] rfl) h
    · have h := gf_t c2 h
      refine lv_iload_n hx hb gd_Model_ways_14 rfl (lv_at hl 0 rfl) ?_
      refine lv_iload_n hx hb gd_Model_ways_15 rfl (lv_at hl 0 rfl) ?_
      refine lv_iconst (v := 1) hx hb gd_Model_ways_16 (by decide) ?_
      refine lv_iadd hx hb gd_Model_ways_17 ?_
      refine lv_imul hx hb gd_Model_ways_18 ?_
      refine lv_iconst (v := 2) hx hb gd_Model_ways_19 (by decide) ?_
      obtain ⟨g7, h⟩ := gf_if_ok h
      refine lv_idiv hx hb gd_Model_ways_20 g7 ?_
      refine lv_goto (tgt := 62) hx hb gd_Model_ways_21 (by decide) ?_
      exact gx_Model_ways_b62 F C hr hk  u ((x0 * (x0 + (1 : Int32))) / (2 : Int32))  hW (lv_sub hl [] rfl) h
  · have h := gf_t c1 h
    refine lv_iload_n hx hb gd_Model_ways_5 rfl (lv_at hl 0 rfl) ?_
    refine lv_goto (tgt := 62) hx hb gd_Model_ways_6 (by decide) ?_
    exact gx_Model_ways_b62 F C hr hk  u x0  hW (lv_sub hl [] rfl) h

set_option maxRecDepth 20000 in
theorem gc_Model_ways (l : Launch) {D : va_G} {cA : Nat → ClassId} {hs : Nat → Nat} {z : gw_Sh} (F : Nat) {u : gw_St} {r0 : (Int32 × gw_St)} {x0 : Int32} {x1 : Int32}  (h : gf_Model_ways F z u x0 x1 = some r0) (sz : Nat) : gw_Mi l gy_Model_ways gb_Model_ways 2 (some .int) gr_Model_ways [.int x0, .int x1] D cA hs z u sz r0 := by
  refine gw_enter (by decide) (Nat.le_of_ble_eq_true rfl) ?_
  intro p e s m below meth c ls hsz C hW hr hk _ hl
  subst hsz
  exact gx_Model_ways_b0 F C hr hk u x0 x1  hW (lv_sub hl [0, 1] rfl) h
-- GearDeskModel.want(IIIII)I
theorem gk_385 : Cond.methodLink R_Model 123 gy_Model_fail ∈ gt_T := gt_m6 (List.mem_of_getElem? (i := 211) rfl) rfl
theorem gk_386 : Cond.instanceMethod gy_Model_fail ∈ gt_T := gt_m6 (List.mem_of_getElem? (i := 213) rfl) rfl
theorem gk_387 : Cond.selects R_Model gy_Model_fail gy_Model_fail ∈ gt_T := gt_p3 (List.mem_of_getElem? (i := 0) rfl) rfl
theorem gk_388 : Cond.fieldLink R_Model 127 R_Model "hasTask" "Z" ∈ gt_T := gt_m6 (List.mem_of_getElem? (i := 53) rfl) rfl
theorem gk_389 : Cond.fieldLink R_Model 131 R_Model "wantNum" "I" ∈ gt_T := gt_m6 (List.mem_of_getElem? (i := 54) rfl) rfl
theorem gk_390 : Cond.fieldLink R_Model 134 R_Model "wantDen" "I" ∈ gt_T := gt_m6 (List.mem_of_getElem? (i := 55) rfl) rfl
theorem gk_391 : Cond.fieldLink R_Model 137 R_Model "stages" "I" ∈ gt_T := gt_m6 (List.mem_of_getElem? (i := 56) rfl) rfl
theorem gk_392 : Cond.fieldLink R_Model 140 R_Model "least" "I" ∈ gt_T := gt_m6 (List.mem_of_getElem? (i := 57) rfl) rfl
theorem gk_393 : Cond.fieldLink R_Model 143 R_Model "numbers" "I" ∈ gt_T := gt_m6 (List.mem_of_getElem? (i := 58) rfl) rfl
theorem gk_394 : Cond.methodLink R_Model 146 gy_Model_ways ∈ gt_T := gt_m6 (List.mem_of_getElem? (i := 215) rfl) rfl
theorem gk_395 : Cond.static gy_Model_ways ∈ gt_T := gt_m6 (List.mem_of_getElem? (i := 216) rfl) rfl
theorem gk_396 : Cond.fieldLink R_Model 150 R_Model "left" "I" ∈ gt_T := gt_m6 (List.mem_of_getElem? (i := 59) rfl) rfl
theorem gk_397 : Cond.fieldLink R_Model 153 R_Model "isFound" "Z" ∈ gt_T := gt_m6 (List.mem_of_getElem? (i := 60) rfl) rfl
theorem gk_398 : Cond.methodLink R_Model 119 gy_Model_within ∈ gt_T := gt_m6 (List.mem_of_getElem? (i := 208) rfl) rfl
theorem gk_399 : Cond.static gy_Model_within ∈ gt_T := gt_m6 (List.mem_of_getElem? (i := 209) rfl) rfl
def gy_Model_want : MethodName := ⟨R_Model, "want", "(IIIII)I"⟩
abbrev gb_Model_want : ByteArray := prog_11_method_7_code
theorem gk_400 : Cond.code gy_Model_want gb_Model_want 7 (some .int) ∈ gt_T := gt_m6 (List.mem_of_getElem? (i := 207) rfl) rfl
def gr_Model_want : Room := gw_rm 2 86
theorem gm_Model_want : gw_Mth gy_Model_want gb_Model_want 7 (some .int) 5 := ⟨gk_400, gk_377, ⟨by decide +kernel, by decide +kernel⟩, by decide +kernel⟩
theorem gd_Model_want_0 : decode gb_Model_want 0 = .ok (.aload_n 0, 1) := by decide +kernel
theorem gd_Model_want_1 : decode gb_Model_want 1 = .ok (.iconst 0, 1) := by decide +kernel
theorem gd_Model_want_2 : decode gb_Model_want 2 = .ok (.putfield 112, 3) := by decide +kernel
theorem gd_Model_want_5 : decode gb_Model_want 5 = .ok (.iload_n 1, 1) := by decide +kernel
theorem gd_Model_want_6 : decode gb_Model_want 6 = .ok (.iconst 1, 1) := by decide +kernel
theorem gd_Model_want_7 : decode gb_Model_want 7 = .ok (.if_icmp .lt 38, 3) := by decide +kernel
theorem gd_Model_want_10 : decode gb_Model_want 10 = .ok (.iload_n 2, 1) := by decide +kernel
theorem gd_Model_want_11 : decode gb_Model_want 11 = .ok (.iconst 1, 1) := by decide +kernel
theorem gd_Model_want_12 : decode gb_Model_want 12 = .ok (.if_icmp .lt 33, 3) := by decide +kernel
theorem gd_Model_want_15 : decode gb_Model_want 15 = .ok (.iload_n 3, 1) := by decide +kernel
theorem gd_Model_want_16 : decode gb_Model_want 16 = .ok (.iconst 1, 1) := by decide +kernel
theorem gd_Model_want_17 : decode gb_Model_want 17 = .ok (.iconst 4, 1) := by decide +kernel
theorem gd_Model_want_18 : decode gb_Model_want 18 = .ok (.invokestatic 119, 3) := by decide +kernel
theorem gd_Model_want_21 : decode gb_Model_want 21 = .ok (.ifCond .eq 24, 3) := by decide +kernel
theorem gd_Model_want_24 : decode gb_Model_want 24 = .ok (.iload 4, 2) := by decide +kernel
theorem gd_Model_want_26 : decode gb_Model_want 26 = .ok (.bipush 8, 2) := by decide +kernel
theorem gd_Model_want_28 : decode gb_Model_want 28 = .ok (.if_icmp .lt 17, 3) := by decide +kernel
theorem gd_Model_want_31 : decode gb_Model_want 31 = .ok (.iload 5, 2) := by decide +kernel
theorem gd_Model_want_33 : decode gb_Model_want 33 = .ok (.iload 4, 2) := by decide +kernel
theorem gd_Model_want_35 : decode gb_Model_want 35 = .ok (.if_icmp .lt 10, 3) := by decide +kernel
theorem gd_Model_want_38 : decode gb_Model_want 38 = .ok (.iload 5, 2) := by decide +kernel
theorem gd_Model_want_40 : decode gb_Model_want 40 = .ok (.bipush 120, 2) := by decide +kernel
theorem gd_Model_want_42 : decode gb_Model_want 42 = .ok (.if_icmp .le 9, 3) := by decide +kernel
theorem gd_Model_want_45 : decode gb_Model_want 45 = .ok (.aload_n 0, 1) := by decide +kernel
theorem gd_Model_want_46 : decode gb_Model_want 46 = .ok (.iconst 1, 1) := by decide +kernel
theorem gd_Model_want_47 : decode gb_Model_want 47 = .ok (.invokevirtual 123, 3) := by decide +kernel
theorem gd_Model_want_50 : decode gb_Model_want 50 = .ok (.ireturn, 1) := by decide +kernel
theorem gd_Model_want_51 : decode gb_Model_want 51 = .ok (.iload 5, 2) := by decide +kernel
theorem gd_Model_want_53 : decode gb_Model_want 53 = .ok (.iload 4, 2) := by decide +kernel
theorem gd_Model_want_55 : decode gb_Model_want 55 = .ok (.isub, 1) := by decide +kernel
theorem gd_Model_want_56 : decode gb_Model_want 56 = .ok (.iconst 1, 1) := by decide +kernel
theorem gd_Model_want_57 : decode gb_Model_want 57 = .ok (.iadd, 1) := by decide +kernel
theorem gd_Model_want_58 : decode gb_Model_want 58 = .ok (.istore 6, 2) := by decide +kernel
theorem gd_Model_want_60 : decode gb_Model_want 60 = .ok (.iload_n 3, 1) := by decide +kernel
theorem gd_Model_want_61 : decode gb_Model_want 61 = .ok (.iconst 3, 1) := by decide +kernel
theorem gd_Model_want_62 : decode gb_Model_want 62 = .ok (.if_icmp .ne 10, 3) := by decide +kernel
theorem gd_Model_want_65 : decode gb_Model_want 65 = .ok (.iload 6, 2) := by decide +kernel
theorem gd_Model_want_67 : decode gb_Model_want 67 = .ok (.bipush 60, 2) := by decide +kernel
theorem gd_Model_want_69 : decode gb_Model_want 69 = .ok (.if_icmp .gt 15, 3) := by decide +kernel
theorem gd_Model_want_72 : decode gb_Model_want 72 = .ok (.iload_n 3, 1) := by decide +kernel
theorem gd_Model_want_73 : decode gb_Model_want 73 = .ok (.iconst 4, 1) := by decide +kernel
theorem gd_Model_want_74 : decode gb_Model_want 74 = .ok (.if_icmp .ne 16, 3) := by decide +kernel
theorem gd_Model_want_77 : decode gb_Model_want 77 = .ok (.iload 6, 2) := by decide +kernel
theorem gd_Model_want_79 : decode gb_Model_want 79 = .ok (.bipush 20, 2) := by decide +kernel
theorem gd_Model_want_81 : decode gb_Model_want 81 = .ok (.if_icmp .le 9, 3) := by decide +kernel
theorem gd_Model_want_84 : decode gb_Model_want 84 = .ok (.aload_n 0, 1) := by decide +kernel
theorem gd_Model_want_85 : decode gb_Model_want 85 = .ok (.iconst 1, 1) := by decide +kernel
theorem gd_Model_want_86 : decode gb_Model_want 86 = .ok (.invokevirtual 123, 3) := by decide +kernel
theorem gd_Model_want_89 : decode gb_Model_want 89 = .ok (.ireturn, 1) := by decide +kernel
theorem gd_Model_want_90 : decode gb_Model_want 90 = .ok (.aload_n 0, 1) := by decide +kernel
theorem gd_Model_want_91 : decode gb_Model_want 91 = .ok (.iconst 1, 1) := by decide +kernel
theorem gd_Model_want_92 : decode gb_Model_want 92 = .ok (.putfield 127, 3) := by decide +kernel
theorem gd_Model_want_95 : decode gb_Model_want 95 = .ok (.aload_n 0, 1) := by decide +kernel
theorem gd_Model_want_96 : decode gb_Model_want 96 = .ok (.iload_n 1, 1) := by decide +kernel
theorem gd_Model_want_97 : decode gb_Model_want 97 = .ok (.putfield 131, 3) := by decide +kernel
theorem gd_Model_want_100 : decode gb_Model_want 100 = .ok (.aload_n 0, 1) := by decide +kernel
theorem gd_Model_want_101 : decode gb_Model_want 101 = .ok (.iload_n 2, 1) := by decide +kernel
theorem gd_Model_want_102 : decode gb_Model_want 102 = .ok (.putfield 134, 3) := by decide +kernel
theorem gd_Model_want_105 : decode gb_Model_want 105 = .ok (.aload_n 0, 1) := by decide +kernel
theorem gd_Model_want_106 : decode gb_Model_want 106 = .ok (.iload_n 3, 1) := by decide +kernel
theorem gd_Model_want_107 : decode gb_Model_want 107 = .ok (.putfield 137, 3) := by decide +kernel
theorem gd_Model_want_110 : decode gb_Model_want 110 = .ok (.aload_n 0, 1) := by decide +kernel
theorem gd_Model_want_111 : decode gb_Model_want 111 = .ok (.iload 4, 2) := by decide +kernel
theorem gd_Model_want_113 : decode gb_Model_want 113 = .ok (.putfield 140, 3) := by decide +kernel
theorem gd_Model_want_116 : decode gb_Model_want 116 = .ok (.aload_n 0, 1) := by decide +kernel
theorem gd_Model_want_117 : decode gb_Model_want 117 = .ok (.iload 6, 2) := by decide +kernel
theorem gd_Model_want_119 : decode gb_Model_want 119 = .ok (.putfield 143, 3) := by decide +kernel
theorem gd_Model_want_122 : decode gb_Model_want 122 = .ok (.aload_n 0, 1) := by decide +kernel
theorem gd_Model_want_123 : decode gb_Model_want 123 = .ok (.iload 6, 2) := by decide +kernel
theorem gd_Model_want_125 : decode gb_Model_want 125 = .ok (.iload_n 3, 1) := by decide +kernel
theorem gd_Model_want_126 : decode gb_Model_want 126 = .ok (.invokestatic 146, 3) := by decide +kernel
theorem gd_Model_want_129 : decode gb_Model_want 129 = .ok (.putfield 150, 3) := by decide +kernel
theorem gd_Model_want_132 : decode gb_Model_want 132 = .ok (.aload_n 0, 1) := by decide +kernel
theorem gd_Model_want_133 : decode gb_Model_want 133 = .ok (.iconst 0, 1) := by decide +kernel
theorem gd_Model_want_134 : decode gb_Model_want 134 = .ok (.putfield 153, 3) := by decide +kernel
theorem gd_Model_want_137 : decode gb_Model_want 137 = .ok (.aload_n 0, 1) := by decide +kernel
theorem gd_Model_want_138 : decode gb_Model_want 138 = .ok (.getfield 150, 3) := by decide +kernel
theorem gd_Model_want_141 : decode gb_Model_want 141 = .ok (.ireturn, 1) := by decide +kernel
def gf_Model_want_b45 (F : Nat) (z : gw_Sh)  (u : gw_St) (t0 : Nat) : Option (Int32 × gw_St) :=
  gf_cl (gf_Model_fail F z u t0 (1 : Int32)) fun a3 u1 => some (a3, u1)
def gf_Model_want_b90 (F : Nat) (z : gw_Sh)  (u : gw_St) (t0 : Nat) (x1 : Int32) (x2 : Int32) (x3 : Int32) (x4 : Int32) (x6 : Int32) : Option (Int32 × gw_St) :=
  gf_nm (gw_wi u t0 1 (1 : Int32)) fun u4 => gf_nm (gw_wi u4 t0 2 x1) fun u6 => gf_nm (gw_wi u6 t0 3 x2) fun u8 => gf_nm (gw_wi u8 t0 4 x3) fun u10 => gf_nm (gw_wi u10 t0 5 x4) fun u12 => gf_nm (gw_wi u12 t0 6 x6) fun u14 => gf_cl (gf_Model_ways F z u14 x6 x3) fun a18 u16 => gf_nm (gw_wi u16 t0 7 a18) fun u19 => gf_nm (gw_wi u19 t0 8 (0 : Int32)) fun u21 => some ((u21.1 t0 7), u21)
def gf_Model_want_b84 (F : Nat) (z : gw_Sh)  (u : gw_St) (t0 : Nat) : Option (Int32 × gw_St) :=
  gf_cl (gf_Model_fail F z u t0 (1 : Int32)) fun a25 u23 => some (a25, u23)
def gf_Model_want_b72 (F : Nat) (z : gw_Sh)  (u : gw_St) (t0 : Nat) (x1 : Int32) (x2 : Int32) (x3 : Int32) (x4 : Int32) (x6 : Int32) : Option (Int32 × gw_St) :=
  if x3 = (4 : Int32) then (if x6 ≤ (20 : Int32) then (gf_Model_want_b90 F z  u t0 x1 x2 x3 x4 x6) else (gf_Model_want_b84 F z  u t0)) else (gf_Model_want_b90 F z  u t0 x1 x2 x3 x4 x6)
def gf_Model_want_b0 (F : Nat) (z : gw_Sh)  (u : gw_St) (t0 : Nat) (x1 : Int32) (x2 : Int32) (x3 : Int32) (x4 : Int32) (x5 : Int32) : Option (Int32 × gw_St) :=
  gf_nm (gw_wi u t0 0 (0 : Int32)) fun u28 => if x1 < (1 : Int32) then (gf_Model_want_b45 F z  u28 t0) else (if x2 < (1 : Int32) then (gf_Model_want_b45 F z  u28 t0) else (gf_cl (gf_Model_within F z u28 x3 (1 : Int32) (4 : Int32)) fun a34 u32 => if a34 = 0 then (gf_Model_want_b45 F z  u32 t0) else (if x4 < (8 : Int32) then (gf_Model_want_b45 F z  u32 t0) else (if x5 < x4 then (gf_Model_want_b45 F z  u32 t0) else (if x5 ≤ (120 : Int32) then (gf_nm ((x5 - x4) + (1 : Int32)) fun a39 => if x3 = (3 : Int32) then (if (60 : Int32) < a39 then (gf_Model_want_b84 F z  u32 t0) else (gf_Model_want_b72 F z  u32 t0 x1 x2 x3 x4 a39)) else (gf_Model_want_b72 F z  u32 t0 x1 x2 x3 x4 a39)) else (gf_Model_want_b45 F z  u32 t0))))))
def gf_Model_want (F : Nat) (z : gw_Sh) (u : gw_St) (t0 : Nat) (x1 : Int32) (x2 : Int32) (x3 : Int32) (x4 : Int32) (x5 : Int32) : Option (Int32 × gw_St) := gf_Model_want_b0 F z  u t0 x1 x2 x3 x4 x5
set_option maxHeartbeats 4000000 in
set_option maxRecDepth 20000 in
theorem gx_Model_want_b45 {p : Program} {l : Launch} {e : Env} {s : State} {m : MethodId} {args : Array Value} {below : List Frame} {meth : Method} {c : Code} {D : va_G} {cA : Nat → ClassId} {hs : Nat → Nat} {z : gw_Sh} (F : Nat) {r0 : (Int32 × gw_St)} (C : gw_Cx p s m args c gb_Model_want 7 R_Model D cA) (hr : meth.sig.returnType = (some .int)) (hk : meth.locks = false) (u : gw_St) (t0 : Nat) (o_t0 : gw_ok z t0 9) {H : Heap} {locs : List Loc} {ls : Array Slot} (hW : gw_Wx D cA hs z s u H locs) (hl : lv_has ls 7 [(0, .ref (hs t0))]) (h : gf_Model_want_b45 F z   u t0 = some r0) : gw_Gi p l e gr_Model_want s m args below meth c D cA hs z r0 H locs ls 45 [] := by
  obtain ⟨hx, hb, hml, hown, hts, hK⟩ := id C
  unfold gf_Model_want_b45 at h
  refine lv_aload_n hx hb gd_Model_want_45 rfl (lv_at hl 0 rfl) ?_
  refine lv_iconst (v := 1) hx hb gd_Model_want_46 (by decide) ?_
  obtain ⟨a3, u1, d2, h⟩ := gf_cl_ok h
  refine gw_callVi (K := R_Model) (As := [.int (1 : Int32)]) (rest := []) C hW (fun _ h => Or.inr h) hl.1 gm_Model_fail (gc_Model_fail l F o_t0 d2 _) gk_385 gk_386 gk_387 o_t0 (by decide) rfl rfl rfl ⟨Nat.le_of_ble_eq_true rfl, Nat.le_of_ble_eq_true rfl⟩ ⟨Nat.zero_le _, Nat.zero_le _⟩ rfl rfl (Nat.le_of_ble_eq_true rfl) gd_Model_want_47 (fun H locs hW => ?_)
  obtain rfl := Option.some.inj h
  exact gw_iret C hW hr hk gd_Model_want_50

set_option maxHeartbeats 4000000 in
set_option maxRecDepth 20000 in
theorem gx_Model_want_b90 {p : Program} {l : Launch} {e : Env} {s : State} {m : MethodId} {args : Array Value} {below : List Frame} {meth : Method} {c : Code} {D : va_G} {cA : Nat → ClassId} {hs : Nat → Nat} {z : gw_Sh} (F : Nat) {r0 : (Int32 × gw_St)} (C : gw_Cx p s m args c gb_Model_want 7 R_Model D cA) (hr : meth.sig.returnType = (some .int)) (hk : meth.locks = false) (u : gw_St) (t0 : Nat) (x1 : Int32) (x2 : Int32) (x3 : Int32) (x4 : Int32) (x6 : Int32) (o_t0 : gw_ok z t0 9) {H : Heap} {locs : List Loc} {ls : Array Slot} (hW : gw_Wx D cA hs z s u H locs) (hl : lv_has ls 7 [(0, .ref (hs t0)), (1, .int x1), (2, .int x2), (3, .int x3), (4, .int x4), (6, .int x6)]) (h : gf_Model_want_b90 F z   u t0 x1 x2 x3 x4 x6 = some r0) : gw_Gi p l e gr_Model_want s m args below meth c D cA hs z r0 H locs ls 90 [] := by
  obtain ⟨hx, hb, hml, hown, hts, hK⟩ := id C
  unfold gf_Model_want_b90 at h
  refine lv_aload_n hx hb gd_Model_want_90 rfl (lv_at hl 0 rfl) ?_
  refine lv_iconst (v := 1) hx hb gd_Model_want_91 (by decide) ?_
  refine gw_puti (k := 1) (ref := R_Model) (fty := .boolean) C hW o_t0 (by decide) rfl gi_Model rfl (by decide) rfl rfl gk_388 tf_Model tf_Model_ok nm_Model rfl rfl rfl rfl gd_Model_want_92 (fun u4 H locs e5 hW => ?_)
  have h := gf_nm_ok e5 h
  refine lv_aload_n hx hb gd_Model_want_95 rfl (lv_at hl 0 rfl) ?_
  refine lv_iload_n hx hb gd_Model_want_96 rfl (lv_at hl 1 rfl) ?_
  refine gw_puti (k := 2) (ref := R_Model) (fty := .int) C hW o_t0 (by decide) rfl gi_Model rfl (by decide) rfl rfl gk_389 tf_Model tf_Model_ok nm_Model rfl rfl rfl rfl gd_Model_want_97 (fun u6 H locs e7 hW => ?_)
  have h := gf_nm_ok e7 h
  refine lv_aload_n hx hb gd_Model_want_100 rfl (lv_at hl 0 rfl) ?_
  refine lv_iload_n hx hb gd_Model_want_101 rfl (lv_at hl 2 rfl) ?_
  refine gw_puti (k := 3) (ref := R_Model) (fty := .int) C hW o_t0 (by decide) rfl gi_Model rfl (by decide) rfl rfl gk_390 tf_Model tf_Model_ok nm_Model rfl rfl rfl rfl gd_Model_want_102 (fun u8 H locs e9 hW => ?_)
  have h := gf_nm_ok e9 h
  refine lv_aload_n hx hb gd_Model_want_105 rfl (lv_at hl 0 rfl) ?_
  refine lv_iload_n hx hb gd_Model_want_106 rfl (lv_at hl 3 rfl) ?_
  refine gw_puti (k := 4) (ref := R_Model) (fty := .int) C hW o_t0 (by decide) rfl gi_Model rfl (by decide) rfl rfl gk_391 tf_Model tf_Model_ok nm_Model rfl rfl rfl rfl gd_Model_want_107 (fun u10 H locs e11 hW => ?_)
  have h := gf_nm_ok e11 h
  refine lv_aload_n hx hb gd_Model_want_110 rfl (lv_at hl 0 rfl) ?_
  refine lv_iload hx hb gd_Model_want_111 (lv_at hl 4 rfl) ?_
  refine gw_puti (k := 5) (ref := R_Model) (fty := .int) C hW o_t0 (by decide) rfl gi_Model rfl (by decide) rfl rfl gk_392 tf_Model tf_Model_ok nm_Model rfl rfl rfl rfl gd_Model_want_113 (fun u12 H locs e13 hW => ?_)
  have h := gf_nm_ok e13 h
  refine lv_aload_n hx hb gd_Model_want_116 rfl (lv_at hl 0 rfl) ?_
  refine lv_iload hx hb gd_Model_want_117 (lv_at hl 5 rfl) ?_
  refine gw_puti (k := 6) (ref := R_Model) (fty := .int) C hW o_t0 (by decide) rfl gi_Model rfl (by decide) rfl rfl gk_393 tf_Model tf_Model_ok nm_Model rfl rfl rfl rfl gd_Model_want_119 (fun u14 H locs e15 hW => ?_)
  have h := gf_nm_ok e15 h
  refine lv_aload_n hx hb gd_Model_want_122 rfl (lv_at hl 0 rfl) ?_
  refine lv_iload hx hb gd_Model_want_123 (lv_at hl 5 rfl) ?_
  refine lv_iload_n hx hb gd_Model_want_125 rfl (lv_at hl 3 rfl) ?_
  obtain ⟨a18, u16, d17, h⟩ := gf_cl_ok h
  refine gw_callSi (As := [.int x6, .int x3]) (rest := [.ref (hs t0)]) C hW (fun _ h => Or.inr h) hl.1 gm_Model_ways (gc_Model_ways l F  d17 _) gk_394 gk_395 rfl rfl ⟨Nat.le_of_ble_eq_true rfl, Nat.le_of_ble_eq_true rfl⟩ ⟨Nat.zero_le _, Nat.zero_le _⟩ rfl rfl (Nat.le_of_ble_eq_true rfl) gd_Model_want_126 (fun H locs hW => ?_)
  refine gw_puti (k := 7) (ref := R_Model) (fty := .int) C hW o_t0 (by decide) rfl gi_Model rfl (by decide) rfl rfl gk_396 tf_Model tf_Model_ok nm_Model rfl rfl rfl rfl gd_Model_want_129 (fun u19 H locs e20 hW => ?_)
  have h := gf_nm_ok e20 h
  refine lv_aload_n hx hb gd_Model_want_132 rfl (lv_at hl 0 rfl) ?_
  refine lv_iconst (v := 0) hx hb gd_Model_want_133 (by decide) ?_
  refine gw_puti (k := 8) (ref := R_Model) (fty := .boolean) C hW o_t0 (by decide) rfl gi_Model rfl (by decide) rfl rfl gk_397 tf_Model tf_Model_ok nm_Model rfl rfl rfl rfl gd_Model_want_134 (fun u21 H locs e22 hW => ?_)
  have h := gf_nm_ok e22 h
  refine lv_aload_n hx hb gd_Model_want_137 rfl (lv_at hl 0 rfl) ?_
  refine gw_geti (k := 7) (ref := R_Model) C hW o_t0 (by decide) rfl gi_Model rfl (by decide) rfl rfl gk_396 gd_Model_want_138 ?_
  obtain rfl := Option.some.inj h
  exact gw_iret C hW hr hk gd_Model_want_141

set_option maxHeartbeats 4000000 in
set_option maxRecDepth 20000 in
theorem gx_Model_want_b84 {p : Program} {l : Launch} {e : Env} {s : State} {m : MethodId} {args : Array Value} {below : List Frame} {meth : Method} {c : Code} {D : va_G} {cA : Nat → ClassId} {hs : Nat → Nat} {z : gw_Sh} (F : Nat) {r0 : (Int32 × gw_St)} (C : gw_Cx p s m args c gb_Model_want 7 R_Model D cA) (hr : meth.sig.returnType = (some .int)) (hk : meth.locks = false) (u : gw_St) (t0 : Nat) (o_t0 : gw_ok z t0 9) {H : Heap} {locs : List Loc} {ls : Array Slot} (hW : gw_Wx D cA hs z s u H locs) (hl : lv_has ls 7 [(0, .ref (hs t0))]) (h : gf_Model_want_b84 F z   u t0 = some r0) : gw_Gi p l e gr_Model_want s m args below meth c D cA hs z r0 H locs ls 84 [] := by
  obtain ⟨hx, hb, hml, hown, hts, hK⟩ := id C
  unfold gf_Model_want_b84 at h
  refine lv_aload_n hx hb gd_Model_want_84 rfl (lv_at hl 0 rfl) ?_
  refine lv_iconst (v := 1) hx hb gd_Model_want_85 (by decide) ?_
  obtain ⟨a25, u23, d24, h⟩ := gf_cl_ok h
  refine gw_callVi (K := R_Model) (As := [.int (1 : Int32)]) (rest := []) C hW (fun _ h => Or.inr h) hl.1 gm_Model_fail (gc_Model_fail l F o_t0 d24 _) gk_385 gk_386 gk_387 o_t0 (by decide) rfl rfl rfl ⟨Nat.le_of_ble_eq_true rfl, Nat.le_of_ble_eq_true rfl⟩ ⟨Nat.zero_le _, Nat.zero_le _⟩ rfl rfl (Nat.le_of_ble_eq_true rfl) gd_Model_want_86 (fun H locs hW => ?_)
  obtain rfl := Option.some.inj h
  exact gw_iret C hW hr hk gd_Model_want_89

set_option maxHeartbeats 4000000 in
set_option maxRecDepth 20000 in
theorem gx_Model_want_b72 {p : Program} {l : Launch} {e : Env} {s : State} {m : MethodId} {args : Array Value} {below : List Frame} {meth : Method} {c : Code} {D : va_G} {cA : Nat → ClassId} {hs : Nat → Nat} {z : gw_Sh} (F : Nat) {r0 : (Int32 × gw_St)} (C : gw_Cx p s m args c gb_Model_want 7 R_Model D cA) (hr : meth.sig.returnType = (some .int)) (hk : meth.locks = false) (u : gw_St) (t0 : Nat) (x1 : Int32) (x2 : Int32) (x3 : Int32) (x4 : Int32) (x6 : Int32) (o_t0 : gw_ok z t0 9) {H : Heap} {locs : List Loc} {ls : Array Slot} (hW : gw_Wx D cA hs z s u H locs) (hl : lv_has ls 7 [(0, .ref (hs t0)), (1, .int x1), (2, .int x2), (3, .int x3), (4, .int x4), (6, .int x6)]) (h : gf_Model_want_b72 F z   u t0 x1 x2 x3 x4 x6 = some r0) : gw_Gi p l e gr_Model_want s m args below meth c D cA hs z r0 H locs ls 72 [] := by
  obtain ⟨hx, hb, hml, hown, hts, hK⟩ := id C
  unfold gf_Model_want_b72 at h
  refine lv_iload_n hx hb gd_Model_want_72 rfl (lv_at hl 3 rfl) ?_
  refine lv_iconst (v := 4) hx hb gd_Model_want_73 (by decide) ?_
  refine lv_icmp_ne (tgt := 90) hx hb gd_Model_want_74 (by decide) (fun c26 => ?_) (fun c26 => ?_)
  · have h := gf_f c26 h
    exact gx_Model_want_b90 F C hr hk  u t0 x1 x2 x3 x4 x6 o_t0 hW (lv_sub hl [0, 1, 2, 3, 4, 5] rfl) h
  · have h := gf_t c26 h
    refine lv_iload hx hb gd_Model_want_77 (lv_at hl 5 rfl) ?_
    refine lv_bipush (v := 20) hx hb gd_Model_want_79 (by decide) ?_
    refine lv_icmp_le (tgt := 90) hx hb gd_Model_want_81 (by decide) (fun c27 => ?_) (fun c27 => ?_)
    · have h := gf_t c27 h
      exact gx_Model_want_b90 F C hr hk  u t0 x1 x2 x3 x4 x6 o_t0 hW (lv_sub hl [0, 1, 2, 3, 4, 5] rfl) h
    · have h := gf_f c27 h
      exact gx_Model_want_b84 F C hr hk  u t0 o_t0 hW (lv_sub hl [0] rfl) h

set_option maxHeartbeats 4000000 in
set_option maxRecDepth 20000 in
theorem gx_Model_want_b0 {p : Program} {l : Launch} {e : Env} {s : State} {m : MethodId} {args : Array Value} {below : List Frame} {meth : Method} {c : Code} {D : va_G} {cA : Nat → ClassId} {hs : Nat → Nat} {z : gw_Sh} (F : Nat) {r0 : (Int32 × gw_St)} (C : gw_Cx p s m args c gb_Model_want 7 R_Model D cA) (hr : meth.sig.returnType = (some .int)) (hk : meth.locks = false) (u : gw_St) (t0 : Nat) (x1 : Int32) (x2 : Int32) (x3 : Int32) (x4 : Int32) (x5 : Int32) (o_t0 : gw_ok z t0 9) {H : Heap} {locs : List Loc} {ls : Array Slot} (hW : gw_Wx D cA hs z s u H locs) (hl : lv_has ls 7 [(0, .ref (hs t0)), (1, .int x1), (2, .int x2), (3, .int x3), (4, .int x4), (5, .int x5)]) (h : gf_Model_want_b0 F z   u t0 x1 x2 x3 x4 x5 = some r0) : gw_Gi p l e gr_Model_want s m args below meth c D cA hs z r0 H locs ls 0 [] := by
  obtain ⟨hx, hb, hml, hown, hts, hK⟩ := id C
  unfold gf_Model_want_b0 at h
  refine lv_aload_n hx hb gd_Model_want_0 rfl (lv_at hl 0 rfl) ?_
  refine lv_iconst (v := 0) hx hb gd_Model_want_1 (by decide) ?_
  refine gw_puti (k := 0) (ref := R_Model) (fty := .int) C hW o_t0 (by decide) rfl gi_Model rfl (by decide) rfl rfl gk_376 tf_Model tf_Model_ok nm_Model rfl rfl rfl rfl gd_Model_want_2 (fun u28 H locs e29 hW => ?_)
  have h := gf_nm_ok e29 h
  refine lv_iload_n hx hb gd_Model_want_5 rfl (lv_at hl 1 rfl) ?_
  refine lv_iconst (v := 1) hx hb gd_Model_want_6 (by decide) ?_
  refine lv_icmp_lt (tgt := 45) hx hb gd_Model_want_7 (by decide) (fun c30 => ?_) (fun c30 => ?_)
  · have h := gf_t c30 h
    exact gx_Model_want_b45 F C hr hk  u28 t0 o_t0 hW (lv_sub hl [0] rfl) h
  · have h := gf_f c30 h
    refine lv_iload_n hx hb gd_Model_want_10 rfl (lv_at hl 2 rfl) ?_
    refine lv_iconst (v := 1) hx hb gd_Model_want_11 (by decide) ?_
    refine lv_icmp_lt (tgt := 45) hx hb gd_Model_want_12 (by decide) (fun c31 => ?_) (fun c31 => ?_)
    · have h := gf_t c31 h
      exact gx_Model_want_b45 F C hr hk  u28 t0 o_t0 hW (lv_sub hl [0] rfl) h
    · have h := gf_f c31 h
      refine lv_iload_n hx hb gd_Model_want_15 rfl (lv_at hl 3 rfl) ?_
      refine lv_iconst (v := 1) hx hb gd_Model_want_16 (by decide) ?_
      refine lv_iconst (v := 4) hx hb gd_Model_want_17 (by decide) ?_
      obtain ⟨a34, u32, d33, h⟩ := gf_cl_ok h
      refine gw_callSi (As := [.int x3, .int (1 : Int32), .int (4 : Int32)]) (rest := []) C hW (fun _ h => Or.inr h) hl.1 gm_Model_within (gc_Model_within l F  d33 _) gk_398 gk_399 rfl rfl ⟨Nat.le_of_ble_eq_true rfl, Nat.le_of_ble_eq_true rfl⟩ ⟨Nat.zero_le _, Nat.zero_le _⟩ rfl rfl (Nat.le_of_ble_eq_true rfl) gd_Model_want_18 (fun H locs hW => ?_)
      refine lv_if_eq (tgt := 45) hx hb gd_Model_want_21 (by decide) (fun c35 => ?_) (fun c35 => ?_)
      · have h := gf_t c35 h
        exact gx_Model_want_b45 F C hr hk  u32 t0 o_t0 hW (lv_sub hl [0] rfl) h
      · have h := gf_f c35 h
        refine lv_iload hx hb gd_Model_want_24 (lv_at hl 4 rfl) ?_
        refine lv_bipush (v := 8) hx hb gd_Model_want_26 (by decide) ?_
        refine lv_icmp_lt (tgt := 45) hx hb gd_Model_want_28 (by decide) (fun c36 => ?_) (fun c36 => ?_)
        · have h := gf_t c36 h
          exact gx_Model_want_b45 F C hr hk  u32 t0 o_t0 hW (lv_sub hl [0] rfl) h
        · have h := gf_f c36 h
          refine lv_iload hx hb gd_Model_want_31 (lv_at hl 5 rfl) ?_
          refine lv_iload hx hb gd_Model_want_33 (lv_at hl 4 rfl) ?_
          refine lv_icmp_lt (tgt := 45) hx hb gd_Model_want_35 (by decide) (fun c37 => ?_) (fun c37 => ?_)
          · have h := gf_t c37 h
            exact gx_Model_want_b45 F C hr hk  u32 t0 o_t0 hW (lv_sub hl [0] rfl) h
          · have h := gf_f c37 h
            refine lv_iload hx hb gd_Model_want_38 (lv_at hl 5 rfl) ?_
            refine lv_bipush (v := 120) hx hb gd_Model_want_40 (by decide) ?_
            refine lv_icmp_le (tgt := 51) hx hb gd_Model_want_42 (by decide) (fun c38 => ?_) (fun c38 => ?_)
            · have h := gf_t c38 h
              refine lv_iload hx hb gd_Model_want_51 (lv_at hl 5 rfl) ?_
              refine lv_iload hx hb gd_Model_want_53 (lv_at hl 4 rfl) ?_
              refine lv_isub hx hb gd_Model_want_55 ?_
              refine lv_iconst (v := 1) hx hb gd_Model_want_56 (by decide) ?_
              refine lv_iadd hx hb gd_Model_want_57 ?_
              refine lv_topi (fun a39 e40 => ?_)
              have h := gf_nm_ok e40 h
              refine lv_istore (lv' := [(6, .int a39), (0, .ref (hs t0)), (1, .int x1), (2, .int x2), (3, .int x3), (4, .int x4), (5, .int x5)]) hx hb gd_Model_want_58 hl (by decide) rfl (fun ls hl => ?_)
              refine lv_iload_n hx hb gd_Model_want_60 rfl (lv_at hl 4 rfl) ?_
              refine lv_iconst (v := 3) hx hb gd_Model_want_61 (by decide) ?_
              refine lv_icmp_ne (tgt := 72) hx hb gd_Model_want_62 (by decide) (fun c41 => ?_) (fun c41 => ?_)
              · have h := gf_f c41 h
                exact gx_Model_want_b72 F C hr hk  u32 t0 x1 x2 x3 x4 a39 o_t0 hW (lv_sub hl [1, 2, 3, 4, 5, 0] rfl) h
              · have h := gf_t c41 h
                refine lv_iload hx hb gd_Model_want_65 (lv_at hl 0 rfl) ?_
                refine lv_bipush (v := 60) hx hb gd_Model_want_67 (by decide) ?_
                refine lv_icmp_gt (tgt := 84) hx hb gd_Model_want_69 (by decide) (fun c42 => ?_) (fun c42 => ?_)
                · have h := gf_t c42 h
                  exact gx_Model_want_b84 F C hr hk  u32 t0 o_t0 hW (lv_sub hl [1] rfl) h
                · have h := gf_f c42 h
                  exact gx_Model_want_b72 F C hr hk  u32 t0 x1 x2 x3 x4 a39 o_t0 hW (lv_sub hl [1, 2, 3, 4, 5, 0] rfl) h
            · have h := gf_f c38 h
              exact gx_Model_want_b45 F C hr hk  u32 t0 o_t0 hW (lv_sub hl [0] rfl) h

set_option maxRecDepth 20000 in
theorem gc_Model_want (l : Launch) {D : va_G} {cA : Nat → ClassId} {hs : Nat → Nat} {z : gw_Sh} (F : Nat) {u : gw_St} {r0 : (Int32 × gw_St)} {t0 : Nat} {x1 : Int32} {x2 : Int32} {x3 : Int32} {x4 : Int32} {x5 : Int32} (o_t0 : gw_ok z t0 9) (h : gf_Model_want F z u t0 x1 x2 x3 x4 x5 = some r0) (sz : Nat) : gw_Mi l gy_Model_want gb_Model_want 7 (some .int) gr_Model_want [.ref (hs t0), .int x1, .int x2, .int x3, .int x4, .int x5] D cA hs z u sz r0 := by
  refine gw_enter (by decide) (Nat.le_of_ble_eq_true rfl) ?_
  intro p e s m below meth c ls hsz C hW hr hk _ hl
  subst hsz
  exact gx_Model_want_b0 F C hr hk u t0 x1 x2 x3 x4 x5 o_t0 hW (lv_sub hl [0, 1, 2, 3, 4, 5] rfl) h
-- GearDeskModel.search(I)Z
theorem gk_401 : Cond.constant R_Model 156 1000000 ∈ gt_T := gt_m6 (List.mem_of_getElem? (i := 222) rfl) rfl
def gy_Model_search : MethodName := ⟨R_Model, "search", "(I)Z"⟩
abbrev gb_Model_search : ByteArray := prog_11_method_8_code
theorem gk_402 : Cond.code gy_Model_search gb_Model_search 2 (some .boolean) ∈ gt_T := gt_m6 (List.mem_of_getElem? (i := 221) rfl) rfl
def gr_Model_search : Room := gw_rm 2 86
theorem gm_Model_search : gw_Mth gy_Model_search gb_Model_search 2 (some .boolean) 1 := ⟨gk_402, gk_377, ⟨by decide +kernel, by decide +kernel⟩, by decide +kernel⟩
theorem gd_Model_search_0 : decode gb_Model_search 0 = .ok (.aload_n 0, 1) := by decide +kernel
theorem gd_Model_search_1 : decode gb_Model_search 1 = .ok (.iconst 0, 1) := by decide +kernel
theorem gd_Model_search_2 : decode gb_Model_search 2 = .ok (.putfield 112, 3) := by decide +kernel
theorem gd_Model_search_5 : decode gb_Model_search 5 = .ok (.iload_n 1, 1) := by decide +kernel
theorem gd_Model_search_6 : decode gb_Model_search 6 = .ok (.iconst 1, 1) := by decide +kernel
theorem gd_Model_search_7 : decode gb_Model_search 7 = .ok (.ldc 156, 2) := by decide +kernel
theorem gd_Model_search_9 : decode gb_Model_search 9 = .ok (.invokestatic 119, 3) := by decide +kernel
theorem gd_Model_search_12 : decode gb_Model_search 12 = .ok (.ifCond .ne 17, 3) := by decide +kernel
theorem gd_Model_search_15 : decode gb_Model_search 15 = .ok (.aload_n 0, 1) := by decide +kernel
theorem gd_Model_search_16 : decode gb_Model_search 16 = .ok (.iconst 1, 1) := by decide +kernel
theorem gd_Model_search_17 : decode gb_Model_search 17 = .ok (.invokevirtual 123, 3) := by decide +kernel
theorem gd_Model_search_20 : decode gb_Model_search 20 = .ok (.ifCond .le 7, 3) := by decide +kernel
theorem gd_Model_search_23 : decode gb_Model_search 23 = .ok (.iconst 1, 1) := by decide +kernel
theorem gd_Model_search_24 : decode gb_Model_search 24 = .ok (.goto 4, 3) := by decide +kernel
theorem gd_Model_search_27 : decode gb_Model_search 27 = .ok (.iconst 0, 1) := by decide +kernel
theorem gd_Model_search_28 : decode gb_Model_search 28 = .ok (.ireturn, 1) := by decide +kernel
theorem gd_Model_search_29 : decode gb_Model_search 29 = .ok (.aload_n 0, 1) := by decide +kernel
theorem gd_Model_search_30 : decode gb_Model_search 30 = .ok (.getfield 127, 3) := by decide +kernel
theorem gd_Model_search_33 : decode gb_Model_search 33 = .ok (.ifCond .ne 17, 3) := by decide +kernel
theorem gd_Model_search_36 : decode gb_Model_search 36 = .ok (.aload_n 0, 1) := by decide +kernel
theorem gd_Model_search_37 : decode gb_Model_search 37 = .ok (.iconst 2, 1) := by decide +kernel
theorem gd_Model_search_38 : decode gb_Model_search 38 = .ok (.invokevirtual 123, 3) := by decide +kernel
theorem gd_Model_search_41 : decode gb_Model_search 41 = .ok (.ifCond .le 7, 3) := by decide +kernel
theorem gd_Model_search_44 : decode gb_Model_search 44 = .ok (.iconst 1, 1) := by decide +kernel
theorem gd_Model_search_45 : decode gb_Model_search 45 = .ok (.goto 4, 3) := by decide +kernel
theorem gd_Model_search_48 : decode gb_Model_search 48 = .ok (.iconst 0, 1) := by decide +kernel
theorem gd_Model_search_49 : decode gb_Model_search 49 = .ok (.ireturn, 1) := by decide +kernel
theorem gd_Model_search_50 : decode gb_Model_search 50 = .ok (.aload_n 0, 1) := by decide +kernel
theorem gd_Model_search_51 : decode gb_Model_search 51 = .ok (.aload_n 0, 1) := by decide +kernel
theorem gd_Model_search_52 : decode gb_Model_search 52 = .ok (.getfield 150, 3) := by decide +kernel
theorem gd_Model_search_55 : decode gb_Model_search 55 = .ok (.iload_n 1, 1) := by decide +kernel
theorem gd_Model_search_56 : decode gb_Model_search 56 = .ok (.if_icmp .le 12, 3) := by decide +kernel
theorem gd_Model_search_59 : decode gb_Model_search 59 = .ok (.aload_n 0, 1) := by decide +kernel
theorem gd_Model_search_60 : decode gb_Model_search 60 = .ok (.getfield 150, 3) := by decide +kernel
theorem gd_Model_search_63 : decode gb_Model_search 63 = .ok (.iload_n 1, 1) := by decide +kernel
theorem gd_Model_search_64 : decode gb_Model_search 64 = .ok (.isub, 1) := by decide +kernel
theorem gd_Model_search_65 : decode gb_Model_search 65 = .ok (.goto 4, 3) := by decide +kernel
theorem gd_Model_search_68 : decode gb_Model_search 68 = .ok (.iconst 0, 1) := by decide +kernel
theorem gd_Model_search_69 : decode gb_Model_search 69 = .ok (.putfield 150, 3) := by decide +kernel
theorem gd_Model_search_72 : decode gb_Model_search 72 = .ok (.aload_n 0, 1) := by decide +kernel
theorem gd_Model_search_73 : decode gb_Model_search 73 = .ok (.getfield 150, 3) := by decide +kernel
theorem gd_Model_search_76 : decode gb_Model_search 76 = .ok (.ifCond .ne 7, 3) := by decide +kernel
theorem gd_Model_search_79 : decode gb_Model_search 79 = .ok (.iconst 1, 1) := by decide +kernel
theorem gd_Model_search_80 : decode gb_Model_search 80 = .ok (.goto 4, 3) := by decide +kernel
theorem gd_Model_search_83 : decode gb_Model_search 83 = .ok (.iconst 0, 1) := by decide +kernel
theorem gd_Model_search_84 : decode gb_Model_search 84 = .ok (.ireturn, 1) := by decide +kernel
def gf_Model_search_b28 (F : Nat) (z : gw_Sh)  (u : gw_St) (sx0 : Int32) : Option (Int32 × gw_St) :=
  if ¬ (sx0 &&& 1 = sx0) then none else some (sx0, u)
def gf_Model_search_b49 (F : Nat) (z : gw_Sh)  (u : gw_St) (sx0 : Int32) : Option (Int32 × gw_St) :=
  if ¬ (sx0 &&& 1 = sx0) then none else some (sx0, u)
def gf_Model_search_b84 (F : Nat) (z : gw_Sh)  (u : gw_St) (sx0 : Int32) : Option (Int32 × gw_St) :=
  if ¬ (sx0 &&& 1 = sx0) then none else some (sx0, u)
def gf_Model_search_b69 (F : Nat) (z : gw_Sh)  (u : gw_St) (t0 : Nat) (st0 : Nat) (sx1 : Int32) : Option (Int32 × gw_St) :=
  gf_nm (gw_wi u st0 7 sx1) fun u4 => if (u4.1 t0 7) = 0 then (gf_Model_search_b84 F z  u4 1) else (gf_Model_search_b84 F z  u4 0)
def gf_Model_search_b0 (F : Nat) (z : gw_Sh)  (u : gw_St) (t0 : Nat) (x1 : Int32) : Option (Int32 × gw_St) :=
  gf_nm (gw_wi u t0 0 (0 : Int32)) fun u7 => gf_cl (gf_Model_within F z u7 x1 (1 : Int32) (1000000 : Int32)) fun a11 u9 => if a11 = 0 then (gf_cl (gf_Model_fail F z u9 t0 (1 : Int32)) fun a21 u19 => if a21 ≤ 0 then (gf_Model_search_b28 F z  u19 0) else (gf_Model_search_b28 F z  u19 1)) else (if (u9.1 t0 1) = 0 then (gf_cl (gf_Model_fail F z u9 t0 (2 : Int32)) fun a17 u15 => if a17 ≤ 0 then (gf_Model_search_b49 F z  u15 0) else (gf_Model_search_b49 F z  u15 1)) else (if (u9.1 t0 7) ≤ x1 then (gf_Model_search_b69 F z  u9 t0 t0 0) else (gf_Model_search_b69 F z  u9 t0 t0 ((u9.1 t0 7) - x1))))
def gf_Model_search (F : Nat) (z : gw_Sh) (u : gw_St) (t0 : Nat) (x1 : Int32) : Option (Int32 × gw_St) := gf_Model_search_b0 F z  u t0 x1
set_option maxHeartbeats 4000000 in
set_option maxRecDepth 20000 in
theorem gx_Model_search_b28 {p : Program} {l : Launch} {e : Env} {s : State} {m : MethodId} {args : Array Value} {below : List Frame} {meth : Method} {c : Code} {D : va_G} {cA : Nat → ClassId} {hs : Nat → Nat} {z : gw_Sh} (F : Nat) {r0 : (Int32 × gw_St)} (C : gw_Cx p s m args c gb_Model_search 2 R_Model D cA) (hr : meth.sig.returnType = (some .boolean)) (hk : meth.locks = false) (u : gw_St) (sx0 : Int32)  {H : Heap} {locs : List Loc} {ls : Array Slot} (hW : gw_Wx D cA hs z s u H locs) (hl : lv_has ls 2 []) (h : gf_Model_search_b28 F z   u sx0 = some r0) : gw_Gi p l e gr_Model_search s m args below meth c D cA hs z r0 H locs ls 28 [.int sx0] := by
  obtain ⟨hx, hb, hml, hown, hts, hK⟩ := id C
  unfold gf_Model_search_b28 at h
  obtain ⟨g1, h⟩ := gf_if_ok h
  obtain rfl := Option.some.inj h
  exact gw_zret C hW hr (Decidable.not_not.mp g1) hk gd_Model_search_28

set_option maxHeartbeats 4000000 in
set_option maxRecDepth 20000 in
theorem gx_Model_search_b49 {p : Program} {l : Launch} {e : Env} {s : State} {m : MethodId} {args : Array Value} {below : List Frame} {meth : Method} {c : Code} {D : va_G} {cA : Nat → ClassId} {hs : Nat → Nat} {z : gw_Sh} (F : Nat) {r0 : (Int32 × gw_St)} (C : gw_Cx p s m args c gb_Model_search 2 R_Model D cA) (hr : meth.sig.returnType = (some .boolean)) (hk : meth.locks = false) (u : gw_St) (sx0 : Int32)  {H : Heap} {locs : List Loc} {ls : Array Slot} (hW : gw_Wx D cA hs z s u H locs) (hl : lv_has ls 2 []) (h : gf_Model_search_b49 F z   u sx0 = some r0) : gw_Gi p l e gr_Model_search s m args below meth c D cA hs z r0 H locs ls 49 [.int sx0] := by
  obtain ⟨hx, hb, hml, hown, hts, hK⟩ := id C
  unfold gf_Model_search_b49 at h
  obtain ⟨g2, h⟩ := gf_if_ok h
  obtain rfl := Option.some.inj h
  exact gw_zret C hW hr (Decidable.not_not.mp g2) hk gd_Model_search_49

set_option maxHeartbeats 4000000 in
set_option maxRecDepth 20000 in
theorem gx_Model_search_b84 {p : Program} {l : Launch} {e : Env} {s : State} {m : MethodId} {args : Array Value} {below : List Frame} {meth : Method} {c : Code} {D : va_G} {cA : Nat → ClassId} {hs : Nat → Nat} {z : gw_Sh} (F : Nat) {r0 : (Int32 × gw_St)} (C : gw_Cx p s m args c gb_Model_search 2 R_Model D cA) (hr : meth.sig.returnType = (some .boolean)) (hk : meth.locks = false) (u : gw_St) (sx0 : Int32)  {H : Heap} {locs : List Loc} {ls : Array Slot} (hW : gw_Wx D cA hs z s u H locs) (hl : lv_has ls 2 []) (h : gf_Model_search_b84 F z   u sx0 = some r0) : gw_Gi p l e gr_Model_search s m args below meth c D cA hs z r0 H locs ls 84 [.int sx0] := by
  obtain ⟨hx, hb, hml, hown, hts, hK⟩ := id C
  unfold gf_Model_search_b84 at h
  obtain ⟨g3, h⟩ := gf_if_ok h
  obtain rfl := Option.some.inj h
  exact gw_zret C hW hr (Decidable.not_not.mp g3) hk gd_Model_search_84

set_option maxHeartbeats 4000000 in
set_option maxRecDepth 20000 in
theorem gx_Model_search_b69 {p : Program} {l : Launch} {e : Env} {s : State} {m : MethodId} {args : Array Value} {below : List Frame} {meth : Method} {c : Code} {D : va_G} {cA : Nat → ClassId} {hs : Nat → Nat} {z : gw_Sh} (F : Nat) {r0 : (Int32 × gw_St)} (C : gw_Cx p s m args c gb_Model_search 2 R_Model D cA) (hr : meth.sig.returnType = (some .boolean)) (hk : meth.locks = false) (u : gw_St) (t0 : Nat) (st0 : Nat) (sx1 : Int32) (o_t0 : gw_ok z t0 9) (o_st0 : gw_ok z st0 9) {H : Heap} {locs : List Loc} {ls : Array Slot} (hW : gw_Wx D cA hs z s u H locs) (hl : lv_has ls 2 [(0, .ref (hs t0))]) (h : gf_Model_search_b69 F z   u t0 st0 sx1 = some r0) : gw_Gi p l e gr_Model_search s m args below meth c D cA hs z r0 H locs ls 69 [.int sx1, .ref (hs st0)] := by
  obtain ⟨hx, hb, hml, hown, hts, hK⟩ := id C
  unfold gf_Model_search_b69 at h
  refine gw_puti (k := 7) (ref := R_Model) (fty := .int) C hW o_st0 (by decide) rfl gi_Model rfl (by decide) rfl rfl gk_396 tf_Model tf_Model_ok nm_Model rfl rfl rfl rfl gd_Model_search_69 (fun u4 H locs e5 hW => ?_)
  have h := gf_nm_ok e5 h
  refine lv_aload_n hx hb gd_Model_search_72 rfl (lv_at hl 0 rfl) ?_
  refine gw_geti (k := 7) (ref := R_Model) C hW o_t0 (by decide) rfl gi_Model rfl (by decide) rfl rfl gk_396 gd_Model_search_73 ?_
  refine lv_if_ne (tgt := 83) hx hb gd_Model_search_76 (by decide) (fun c6 => ?_) (fun c6 => ?_)
  · have h := gf_f c6 h
    refine lv_iconst (v := 0) hx hb gd_Model_search_83 (by decide) ?_
    exact gx_Model_search_b84 F C hr hk  u4 0  hW (lv_sub hl [] rfl) h
  · have h := gf_t c6 h
    refine lv_iconst (v := 1) hx hb gd_Model_search_79 (by decide) ?_
    refine lv_goto (tgt := 84) hx hb gd_Model_search_80 (by decide) ?_
    exact gx_Model_search_b84 F C hr hk  u4 1  hW (lv_sub hl [] rfl) h

set_option maxHeartbeats 4000000 in
set_option maxRecDepth 20000 in
theorem gx_Model_search_b0 {p : Program} {l : Launch} {e : Env} {s : State} {m : MethodId} {args : Array Value} {below : List Frame} {meth : Method} {c : Code} {D : va_G} {cA : Nat → ClassId} {hs : Nat → Nat} {z : gw_Sh} (F : Nat) {r0 : (Int32 × gw_St)} (C : gw_Cx p s m args c gb_Model_search 2 R_Model D cA) (hr : meth.sig.returnType = (some .boolean)) (hk : meth.locks = false) (u : gw_St) (t0 : Nat) (x1 : Int32) (o_t0 : gw_ok z t0 9) {H : Heap} {locs : List Loc} {ls : Array Slot} (hW : gw_Wx D cA hs z s u H locs) (hl : lv_has ls 2 [(0, .ref (hs t0)), (1, .int x1)]) (h : gf_Model_search_b0 F z   u t0 x1 = some r0) : gw_Gi p l e gr_Model_search s m args below meth c D cA hs z r0 H locs ls 0 [] := by
  obtain ⟨hx, hb, hml, hown, hts, hK⟩ := id C
  unfold gf_Model_search_b0 at h
  refine lv_aload_n hx hb gd_Model_search_0 rfl (lv_at hl 0 rfl) ?_
  refine lv_iconst (v := 0) hx hb gd_Model_search_1 (by decide) ?_
  refine gw_puti (k := 0) (ref := R_Model) (fty := .int) C hW o_t0 (by decide) rfl gi_Model rfl (by decide) rfl rfl gk_376 tf_Model tf_Model_ok nm_Model rfl rfl rfl rfl gd_Model_search_2 (fun u7 H locs e8 hW => ?_)
  have h := gf_nm_ok e8 h
  refine lv_iload_n hx hb gd_Model_search_5 rfl (lv_at hl 1 rfl) ?_
  refine lv_iconst (v := 1) hx hb gd_Model_search_6 (by decide) ?_
  refine lv_ldc (v := 1000000) hx hb hown (hts _ gk_401) gd_Model_search_7 ?_
  obtain ⟨a11, u9, d10, h⟩ := gf_cl_ok h
  refine gw_callSi (As := [.int x1, .int (1 : Int32), .int (1000000 : Int32)]) (rest := []) C hW (fun _ h => Or.inr h) hl.1 gm_Model_within (gc_Model_within l F  d10 _) gk_398 gk_399 rfl rfl ⟨Nat.le_of_ble_eq_true rfl, Nat.le_of_ble_eq_true rfl⟩ ⟨Nat.zero_le _, Nat.zero_le _⟩ rfl rfl (Nat.le_of_ble_eq_true rfl) gd_Model_search_9 (fun H locs hW => ?_)
  refine lv_if_ne (tgt := 29) hx hb gd_Model_search_12 (by decide) (fun c12 => ?_) (fun c12 => ?_)
  · have h := gf_f c12 h
    refine lv_aload_n hx hb gd_Model_search_29 rfl (lv_at hl 0 rfl) ?_
    refine gw_geti (k := 1) (ref := R_Model) C hW o_t0 (by decide) rfl gi_Model rfl (by decide) rfl rfl gk_388 gd_Model_search_30 ?_
    refine lv_if_ne (tgt := 50) hx hb gd_Model_search_33 (by decide) (fun c13 => ?_) (fun c13 => ?_)
    · have h := gf_f c13 h
      refine lv_aload_n hx hb gd_Model_search_50 rfl (lv_at hl 0 rfl) ?_
      refine lv_aload_n hx hb gd_Model_search_51 rfl (lv_at hl 0 rfl) ?_
      refine gw_geti (k := 7) (ref := R_Model) C hW o_t0 (by decide) rfl gi_Model rfl (by decide) rfl rfl gk_396 gd_Model_search_52 ?_
      refine lv_iload_n hx hb gd_Model_search_55 rfl (lv_at hl 1 rfl) ?_
      refine lv_icmp_le (tgt := 68) hx hb gd_Model_search_56 (by decide) (fun c14 => ?_) (fun c14 => ?_)
      · have h := gf_t c14 h
        refine lv_iconst (v := 0) hx hb gd_Model_search_68 (by decide) ?_
        exact gx_Model_search_b69 F C hr hk  u9 t0 t0 0 o_t0 o_t0 hW (lv_sub hl [0] rfl) h
      · have h := gf_f c14 h
        refine lv_aload_n hx hb gd_Model_search_59 rfl (lv_at hl 0 rfl) ?_
        refine gw_geti (k := 7) (ref := R_Model) C hW o_t0 (by decide) rfl gi_Model rfl (by decide) rfl rfl gk_396 gd_Model_search_60 ?_
        refine lv_iload_n hx hb gd_Model_search_63 rfl (lv_at hl 1 rfl) ?_
        refine lv_isub hx hb gd_Model_search_64 ?_
        refine lv_goto (tgt := 69) hx hb gd_Model_search_65 (by decide) ?_
        exact gx_Model_search_b69 F C hr hk  u9 t0 t0 ((u9.1 t0 7) - x1) o_t0 o_t0 hW (lv_sub hl [0] rfl) h
    · have h := gf_t c13 h
      refine lv_aload_n hx hb gd_Model_search_36 rfl (lv_at hl 0 rfl) ?_
      refine lv_iconst (v := 2) hx hb gd_Model_search_37 (by decide) ?_
      obtain ⟨a17, u15, d16, h⟩ := gf_cl_ok h
      refine gw_callVi (K := R_Model) (As := [.int (2 : Int32)]) (rest := []) C hW (fun _ h => Or.inr h) hl.1 gm_Model_fail (gc_Model_fail l F o_t0 d16 _) gk_385 gk_386 gk_387 o_t0 (by decide) rfl rfl rfl ⟨Nat.le_of_ble_eq_true rfl, Nat.le_of_ble_eq_true rfl⟩ ⟨Nat.zero_le _, Nat.zero_le _⟩ rfl rfl (Nat.le_of_ble_eq_true rfl) gd_Model_search_38 (fun H locs hW => ?_)
      refine lv_if_le (tgt := 48) hx hb gd_Model_search_41 (by decide) (fun c18 => ?_) (fun c18 => ?_)
      · have h := gf_t c18 h
        refine lv_iconst (v := 0) hx hb gd_Model_search_48 (by decide) ?_
        exact gx_Model_search_b49 F C hr hk  u15 0  hW (lv_sub hl [] rfl) h
      · have h := gf_f c18 h
        refine lv_iconst (v := 1) hx hb gd_Model_search_44 (by decide) ?_
        refine lv_goto (tgt := 49) hx hb gd_Model_search_45 (by decide) ?_
        exact gx_Model_search_b49 F C hr hk  u15 1  hW (lv_sub hl [] rfl) h
  · have h := gf_t c12 h
    refine lv_aload_n hx hb gd_Model_search_15 rfl (lv_at hl 0 rfl) ?_
    refine lv_iconst (v := 1) hx hb gd_Model_search_16 (by decide) ?_
    obtain ⟨a21, u19, d20, h⟩ := gf_cl_ok h
    refine gw_callVi (K := R_Model) (As := [.int (1 : Int32)]) (rest := []) C hW (fun _ h => Or.inr h) hl.1 gm_Model_fail (gc_Model_fail l F o_t0 d20 _) gk_385 gk_386 gk_387 o_t0 (by decide) rfl rfl rfl ⟨Nat.le_of_ble_eq_true rfl, Nat.le_of_ble_eq_true rfl⟩ ⟨Nat.zero_le _, Nat.zero_le _⟩ rfl rfl (Nat.le_of_ble_eq_true rfl) gd_Model_search_17 (fun H locs hW => ?_)
    refine lv_if_le (tgt := 27) hx hb gd_Model_search_20 (by decide) (fun c22 => ?_) (fun c22 => ?_)
    · have h := gf_t c22 h
      refine lv_iconst (v := 0) hx hb gd_Model_search_27 (by decide) ?_
      exact gx_Model_search_b28 F C hr hk  u19 0  hW (lv_sub hl [] rfl) h
    · have h := gf_f c22 h
      refine lv_iconst (v := 1) hx hb gd_Model_search_23 (by decide) ?_
      refine lv_goto (tgt := 28) hx hb gd_Model_search_24 (by decide) ?_
      exact gx_Model_search_b28 F C hr hk  u19 1  hW (lv_sub hl [] rfl) h

set_option maxRecDepth 20000 in
theorem gc_Model_search (l : Launch) {D : va_G} {cA : Nat → ClassId} {hs : Nat → Nat} {z : gw_Sh} (F : Nat) {u : gw_St} {r0 : (Int32 × gw_St)} {t0 : Nat} {x1 : Int32} (o_t0 : gw_ok z t0 9) (h : gf_Model_search F z u t0 x1 = some r0) (sz : Nat) : gw_Mi l gy_Model_search gb_Model_search 2 (some .boolean) gr_Model_search [.ref (hs t0), .int x1] D cA hs z u sz r0 := by
  refine gw_enter (by decide) (Nat.le_of_ble_eq_true rfl) ?_
  intro p e s m below meth c ls hsz C hW hr hk _ hl
  subst hsz
  exact gx_Model_search_b0 F C hr hk u t0 x1 o_t0 hW (lv_sub hl [0, 1] rfl) h
-- GearDeskModel.wheel(II)I
def gy_Model_wheel : MethodName := ⟨R_Model, "wheel", "(II)I"⟩
abbrev gb_Model_wheel : ByteArray := prog_11_method_9_code
theorem gk_403 : Cond.code gy_Model_wheel gb_Model_wheel 3 (some .int) ∈ gt_T := gt_m7 (List.mem_of_getElem? (i := 6) rfl) rfl
def gr_Model_wheel : Room := gw_rm 1 64
theorem gm_Model_wheel : gw_Mth gy_Model_wheel gb_Model_wheel 3 (some .int) 2 := ⟨gk_403, gk_377, ⟨by decide +kernel, by decide +kernel⟩, by decide +kernel⟩
theorem gd_Model_wheel_0 : decode gb_Model_wheel 0 = .ok (.iload_n 1, 1) := by decide +kernel
theorem gd_Model_wheel_1 : decode gb_Model_wheel 1 = .ok (.bipush 7, 2) := by decide +kernel
theorem gd_Model_wheel_3 : decode gb_Model_wheel 3 = .ok (.aload_n 0, 1) := by decide +kernel
theorem gd_Model_wheel_4 : decode gb_Model_wheel 4 = .ok (.getfield 137, 3) := by decide +kernel
theorem gd_Model_wheel_7 : decode gb_Model_wheel 7 = .ok (.iconst 1, 1) := by decide +kernel
theorem gd_Model_wheel_8 : decode gb_Model_wheel 8 = .ok (.isub, 1) := by decide +kernel
theorem gd_Model_wheel_9 : decode gb_Model_wheel 9 = .ok (.iload_n 2, 1) := by decide +kernel
theorem gd_Model_wheel_10 : decode gb_Model_wheel 10 = .ok (.isub, 1) := by decide +kernel
theorem gd_Model_wheel_11 : decode gb_Model_wheel 11 = .ok (.imul, 1) := by decide +kernel
theorem gd_Model_wheel_12 : decode gb_Model_wheel 12 = .ok (.ishr, 1) := by decide +kernel
theorem gd_Model_wheel_13 : decode gb_Model_wheel 13 = .ok (.bipush 127, 2) := by decide +kernel
theorem gd_Model_wheel_15 : decode gb_Model_wheel 15 = .ok (.iand, 1) := by decide +kernel
theorem gd_Model_wheel_16 : decode gb_Model_wheel 16 = .ok (.ireturn, 1) := by decide +kernel
def gf_Model_wheel_b0 (F : Nat) (z : gw_Sh)  (u : gw_St) (t0 : Nat) (x1 : Int32) (x2 : Int32) : Option (Int32 × gw_St) :=
  some (((x1 >>> (((7 : Int32) * (((u.1 t0 4) - (1 : Int32)) - x2)) &&& 31)) &&& (127 : Int32)), u)
def gf_Model_wheel (F : Nat) (z : gw_Sh) (u : gw_St) (t0 : Nat) (x1 : Int32) (x2 : Int32) : Option (Int32 × gw_St) := gf_Model_wheel_b0 F z  u t0 x1 x2
set_option maxHeartbeats 4000000 in
set_option maxRecDepth 20000 in
theorem gx_Model_wheel_b0 {p : Program} {l : Launch} {e : Env} {s : State} {m : MethodId} {args : Array Value} {below : List Frame} {meth : Method} {c : Code} {D : va_G} {cA : Nat → ClassId} {hs : Nat → Nat} {z : gw_Sh} (F : Nat) {r0 : (Int32 × gw_St)} (C : gw_Cx p s m args c gb_Model_wheel 3 R_Model D cA) (hr : meth.sig.returnType = (some .int)) (hk : meth.locks = false) (u : gw_St) (t0 : Nat) (x1 : Int32) (x2 : Int32) (o_t0 : gw_ok z t0 9) {H : Heap} {locs : List Loc} {ls : Array Slot} (hW : gw_Wx D cA hs z s u H locs) (hl : lv_has ls 3 [(0, .ref (hs t0)), (1, .int x1), (2, .int x2)]) (h : gf_Model_wheel_b0 F z   u t0 x1 x2 = some r0) : gw_Gi p l e gr_Model_wheel s m args below meth c D cA hs z r0 H locs ls 0 [] := by
  obtain ⟨hx, hb, hml, hown, hts, hK⟩ := id C
  unfold gf_Model_wheel_b0 at h
  refine lv_iload_n hx hb gd_Model_wheel_0 rfl (lv_at hl 1 rfl) ?_
  refine lv_bipush (v := 7) hx hb gd_Model_wheel_1 (by decide) ?_
  refine lv_aload_n hx hb gd_Model_wheel_3 rfl (lv_at hl 0 rfl) ?_
  refine gw_geti (k := 4) (ref := R_Model) C hW o_t0 (by decide) rfl gi_Model rfl (by decide) rfl rfl gk_391 gd_Model_wheel_4 ?_
  refine lv_iconst (v := 1) hx hb gd_Model_wheel_7 (by decide) ?_
  refine lv_isub hx hb gd_Model_wheel_8 ?_
  refine lv_iload_n hx hb gd_Model_wheel_9 rfl (lv_at hl 2 rfl) ?_
  refine lv_isub hx hb gd_Model_wheel_10 ?_
  refine lv_imul hx hb gd_Model_wheel_11 ?_
  refine lv_ishr hx hb gd_Model_wheel_12 ?_
  refine lv_bipush (v := 127) hx hb gd_Model_wheel_13 (by decide) ?_
  refine lv_iand hx hb gd_Model_wheel_15 ?_
  obtain rfl := Option.some.inj h
  exact gw_iret C hW hr hk gd_Model_wheel_16

set_option maxRecDepth 20000 in
theorem gc_Model_wheel (l : Launch) {D : va_G} {cA : Nat → ClassId} {hs : Nat → Nat} {z : gw_Sh} (F : Nat) {u : gw_St} {r0 : (Int32 × gw_St)} {t0 : Nat} {x1 : Int32} {x2 : Int32} (o_t0 : gw_ok z t0 9) (h : gf_Model_wheel F z u t0 x1 x2 = some r0) (sz : Nat) : gw_Mi l gy_Model_wheel gb_Model_wheel 3 (some .int) gr_Model_wheel [.ref (hs t0), .int x1, .int x2] D cA hs z u sz r0 := by
  refine gw_enter (by decide) (Nat.le_of_ble_eq_true rfl) ?_
  intro p e s m below meth c ls hsz C hW hr hk _ hl
  subst hsz
  exact gx_Model_wheel_b0 F C hr hk u t0 x1 x2 o_t0 hW (lv_sub hl [0, 1, 2] rfl) h
-- GearDeskModel.sumOf(I)I
theorem gk_404 : Cond.methodLink R_Model 157 gy_Model_wheel ∈ gt_T := gt_m7 (List.mem_of_getElem? (i := 3) rfl) rfl
theorem gk_405 : Cond.instanceMethod gy_Model_wheel ∈ gt_T := gt_m7 (List.mem_of_getElem? (i := 5) rfl) rfl
theorem gk_406 : Cond.selects R_Model gy_Model_wheel gy_Model_wheel ∈ gt_T := gt_p3 (List.mem_of_getElem? (i := 5) rfl) rfl
def gy_Model_sumOf : MethodName := ⟨R_Model, "sumOf", "(I)I"⟩
abbrev gb_Model_sumOf : ByteArray := prog_11_method_10_code
theorem gk_407 : Cond.code gy_Model_sumOf gb_Model_sumOf 4 (some .int) ∈ gt_T := gt_m7 (List.mem_of_getElem? (i := 2) rfl) rfl
def gr_Model_sumOf : Room := gw_rm 2 86
theorem gm_Model_sumOf : gw_Mth gy_Model_sumOf gb_Model_sumOf 4 (some .int) 1 := ⟨gk_407, gk_377, ⟨by decide +kernel, by decide +kernel⟩, by decide +kernel⟩
theorem gd_Model_sumOf_0 : decode gb_Model_sumOf 0 = .ok (.iconst 0, 1) := by decide +kernel
theorem gd_Model_sumOf_1 : decode gb_Model_sumOf 1 = .ok (.istore_n 2, 1) := by decide +kernel
theorem gd_Model_sumOf_2 : decode gb_Model_sumOf 2 = .ok (.iconst 0, 1) := by decide +kernel
theorem gd_Model_sumOf_3 : decode gb_Model_sumOf 3 = .ok (.istore_n 3, 1) := by decide +kernel
theorem gd_Model_sumOf_4 : decode gb_Model_sumOf 4 = .ok (.iload_n 3, 1) := by decide +kernel
theorem gd_Model_sumOf_5 : decode gb_Model_sumOf 5 = .ok (.aload_n 0, 1) := by decide +kernel
theorem gd_Model_sumOf_6 : decode gb_Model_sumOf 6 = .ok (.getfield 137, 3) := by decide +kernel
theorem gd_Model_sumOf_9 : decode gb_Model_sumOf 9 = .ok (.if_icmp .ge 18, 3) := by decide +kernel
theorem gd_Model_sumOf_12 : decode gb_Model_sumOf 12 = .ok (.iload_n 2, 1) := by decide +kernel
theorem gd_Model_sumOf_13 : decode gb_Model_sumOf 13 = .ok (.aload_n 0, 1) := by decide +kernel
theorem gd_Model_sumOf_14 : decode gb_Model_sumOf 14 = .ok (.iload_n 1, 1) := by decide +kernel
theorem gd_Model_sumOf_15 : decode gb_Model_sumOf 15 = .ok (.iload_n 3, 1) := by decide +kernel
theorem gd_Model_sumOf_16 : decode gb_Model_sumOf 16 = .ok (.invokevirtual 157, 3) := by decide +kernel
theorem gd_Model_sumOf_19 : decode gb_Model_sumOf 19 = .ok (.iadd, 1) := by decide +kernel
theorem gd_Model_sumOf_20 : decode gb_Model_sumOf 20 = .ok (.istore_n 2, 1) := by decide +kernel
theorem gd_Model_sumOf_21 : decode gb_Model_sumOf 21 = .ok (.iinc 3 1, 3) := by decide +kernel
theorem gd_Model_sumOf_24 : decode gb_Model_sumOf 24 = .ok (.goto (-20), 3) := by decide +kernel
theorem gd_Model_sumOf_27 : decode gb_Model_sumOf 27 = .ok (.iload_n 2, 1) := by decide +kernel
theorem gd_Model_sumOf_28 : decode gb_Model_sumOf 28 = .ok (.ireturn, 1) := by decide +kernel
def gf_Model_sumOf_S4 (F : Nat) (z : gw_Sh)  (rc_4 : gw_St → Nat → Int32 → Int32 → Int32 → Option (Int32 × gw_St)) (u : gw_St) (t0 : Nat) (x1 : Int32) (x2 : Int32) (x3 : Int32) : Option (Int32 × gw_St) :=
  if (u.1 t0 4) ≤ x3 then (some (x2, u)) else (gf_cl (gf_Model_wheel F z u t0 x1 x3) fun a4 u2 => gf_nm (x2 + a4) fun a5 => gf_nm (x3 + 1) fun a7 => rc_4 u2 t0 x1 a5 a7)
def gf_Model_sumOf_L4 (F : Nat) (z : gw_Sh)  : Nat → gw_St → Nat → Int32 → Int32 → Int32 → Option (Int32 × gw_St)
  | 0 => fun _ _ _ _ _ => none
  | n + 1 => fun u t0 x1 x2 x3 => gf_Model_sumOf_S4 F z  (gf_Model_sumOf_L4 F z  n) u t0 x1 x2 x3
def gf_Model_sumOf_b0 (F : Nat) (z : gw_Sh)  (u : gw_St) (t0 : Nat) (x1 : Int32) : Option (Int32 × gw_St) :=
  gf_Model_sumOf_L4 F z  F u t0 x1 0 0
def gf_Model_sumOf (F : Nat) (z : gw_Sh) (u : gw_St) (t0 : Nat) (x1 : Int32) : Option (Int32 × gw_St) := gf_Model_sumOf_b0 F z  u t0 x1
set_option maxHeartbeats 4000000 in
set_option maxRecDepth 20000 in
theorem gx_Model_sumOf_S4 {p : Program} {l : Launch} {e : Env} {s : State} {m : MethodId} {args : Array Value} {below : List Frame} {meth : Method} {c : Code} {D : va_G} {cA : Nat → ClassId} {hs : Nat → Nat} {z : gw_Sh} (F : Nat) {r0 : (Int32 × gw_St)} (C : gw_Cx p s m args c gb_Model_sumOf 4 R_Model D cA) (hr : meth.sig.returnType = (some .int)) (hk : meth.locks = false) {rc_4 : gw_St → Nat → Int32 → Int32 → Int32 → Option (Int32 × gw_St)} (k_4 : ∀ (u : gw_St) (t0 : Nat) (x1 : Int32) (x2 : Int32) (x3 : Int32) (H : Heap) (locs : List Loc) (ls : Array Slot), gw_ok z t0 9 → gw_Wx D cA hs z s u H locs → lv_has ls 4 [(0, .ref (hs t0)), (1, .int x1), (2, .int x2), (3, .int x3)] → rc_4 u t0 x1 x2 x3 = some r0 → gw_Gi p l e gr_Model_sumOf s m args below meth c D cA hs z r0 H locs ls 4 []) (u : gw_St) (t0 : Nat) (x1 : Int32) (x2 : Int32) (x3 : Int32) (o_t0 : gw_ok z t0 9) {H : Heap} {locs : List Loc} {ls : Array Slot} (hW : gw_Wx D cA hs z s u H locs) (hl : lv_has ls 4 [(0, .ref (hs t0)), (1, .int x1), (2, .int x2), (3, .int x3)]) (h : gf_Model_sumOf_S4 F z  rc_4 u t0 x1 x2 x3 = some r0) : gw_Gi p l e gr_Model_sumOf s m args below meth c D cA hs z r0 H locs ls 4 [] := by
  obtain ⟨hx, hb, hml, hown, hts, hK⟩ := id C
  unfold gf_Model_sumOf_S4 at h
  refine lv_iload_n hx hb gd_Model_sumOf_4 rfl (lv_at hl 3 rfl) ?_
  refine lv_aload_n hx hb gd_Model_sumOf_5 rfl (lv_at hl 0 rfl) ?_
  refine gw_geti (k := 4) (ref := R_Model) C hW o_t0 (by decide) rfl gi_Model rfl (by decide) rfl rfl gk_391 gd_Model_sumOf_6 ?_
  refine lv_icmp_ge (tgt := 27) hx hb gd_Model_sumOf_9 (by decide) (fun c1 => ?_) (fun c1 => ?_)
  · have h := gf_t c1 h
    refine lv_iload_n hx hb gd_Model_sumOf_27 rfl (lv_at hl 2 rfl) ?_
    obtain rfl := Option.some.inj h
    exact gw_iret C hW hr hk gd_Model_sumOf_28
  · have h := gf_f c1 h
    refine lv_iload_n hx hb gd_Model_sumOf_12 rfl (lv_at hl 2 rfl) ?_
    refine lv_aload_n hx hb gd_Model_sumOf_13 rfl (lv_at hl 0 rfl) ?_
    refine lv_iload_n hx hb gd_Model_sumOf_14 rfl (lv_at hl 1 rfl) ?_
    refine lv_iload_n hx hb gd_Model_sumOf_15 rfl (lv_at hl 3 rfl) ?_
    obtain ⟨a4, u2, d3, h⟩ := gf_cl_ok h
    refine gw_callVi (K := R_Model) (As := [.int x1, .int x3]) (rest := [.int x2]) C hW (fun _ h => Or.inr h) hl.1 gm_Model_wheel (gc_Model_wheel l F o_t0 d3 _) gk_404 gk_405 gk_406 o_t0 (by decide) rfl rfl rfl ⟨Nat.le_of_ble_eq_true rfl, Nat.le_of_ble_eq_true rfl⟩ ⟨Nat.zero_le _, Nat.zero_le _⟩ rfl rfl (Nat.le_of_ble_eq_true rfl) gd_Model_sumOf_16 (fun H locs hW => ?_)
    refine lv_iadd hx hb gd_Model_sumOf_19 ?_
    refine lv_topi (fun a5 e6 => ?_)
    have h := gf_nm_ok e6 h
    refine lv_istore_n (lv' := [(2, .int a5), (0, .ref (hs t0)), (1, .int x1), (3, .int x3)]) hx hb gd_Model_sumOf_20 rfl hl (by decide) rfl (fun ls hl => ?_)
    obtain ⟨a7, e8⟩ : ∃ y : Int32, y = x3 + 1 := ⟨_, rfl⟩
    have h := gf_nm_ok e8 h
    refine lv_iinc (v := a7) (lv' := [(3, .int a7), (2, .int a5), (0, .ref (hs t0)), (1, .int x1)]) hx hb gd_Model_sumOf_21 hl (k := 3) rfl (by rw [e8]; rfl) (by decide) rfl (fun ls hl => ?_)
    refine lv_goto (tgt := 4) hx hb gd_Model_sumOf_24 (by decide) ?_
    exact k_4 u2 t0 x1 a5 a7 _ _ _ o_t0 hW (lv_sub hl [2, 3, 1, 0] rfl) h
set_option maxHeartbeats 4000000 in
set_option maxRecDepth 20000 in
theorem gx_Model_sumOf_L4 {p : Program} {l : Launch} {e : Env} {s : State} {m : MethodId} {args : Array Value} {below : List Frame} {meth : Method} {c : Code} {D : va_G} {cA : Nat → ClassId} {hs : Nat → Nat} {z : gw_Sh} (F : Nat) {r0 : (Int32 × gw_St)} (C : gw_Cx p s m args c gb_Model_sumOf 4 R_Model D cA) (hr : meth.sig.returnType = (some .int)) (hk : meth.locks = false) : ∀ (n : Nat), ∀ (u : gw_St) (t0 : Nat) (x1 : Int32) (x2 : Int32) (x3 : Int32) (H : Heap) (locs : List Loc) (ls : Array Slot), gw_ok z t0 9 → gw_Wx D cA hs z s u H locs → lv_has ls 4 [(0, .ref (hs t0)), (1, .int x1), (2, .int x2), (3, .int x3)] → gf_Model_sumOf_L4 F z  n u t0 x1 x2 x3 = some r0 → gw_Gi p l e gr_Model_sumOf s m args below meth c D cA hs z r0 H locs ls 4 [] := by
  intro n
  induction n with
  | zero =>
    intro u t0 x1 x2 x3 H locs ls o_t0 hW hl h
    cases h
  | succ n ih =>
    intro u t0 x1 x2 x3 H locs ls o_t0 hW hl h
    exact gx_Model_sumOf_S4 F C hr hk  ih u t0 x1 x2 x3 o_t0 hW hl h

set_option maxHeartbeats 4000000 in
set_option maxRecDepth 20000 in
theorem gx_Model_sumOf_b0 {p : Program} {l : Launch} {e : Env} {s : State} {m : MethodId} {args : Array Value} {below : List Frame} {meth : Method} {c : Code} {D : va_G} {cA : Nat → ClassId} {hs : Nat → Nat} {z : gw_Sh} (F : Nat) {r0 : (Int32 × gw_St)} (C : gw_Cx p s m args c gb_Model_sumOf 4 R_Model D cA) (hr : meth.sig.returnType = (some .int)) (hk : meth.locks = false) (u : gw_St) (t0 : Nat) (x1 : Int32) (o_t0 : gw_ok z t0 9) {H : Heap} {locs : List Loc} {ls : Array Slot} (hW : gw_Wx D cA hs z s u H locs) (hl : lv_has ls 4 [(0, .ref (hs t0)), (1, .int x1)]) (h : gf_Model_sumOf_b0 F z   u t0 x1 = some r0) : gw_Gi p l e gr_Model_sumOf s m args below meth c D cA hs z r0 H locs ls 0 [] := by
  obtain ⟨hx, hb, hml, hown, hts, hK⟩ := id C
  unfold gf_Model_sumOf_b0 at h
  refine lv_iconst (v := 0) hx hb gd_Model_sumOf_0 (by decide) ?_
  refine lv_istore_n (lv' := [(2, .int 0), (0, .ref (hs t0)), (1, .int x1)]) hx hb gd_Model_sumOf_1 rfl hl (by decide) rfl (fun ls hl => ?_)
  refine lv_iconst (v := 0) hx hb gd_Model_sumOf_2 (by decide) ?_
  refine lv_istore_n (lv' := [(3, .int 0), (2, .int 0), (0, .ref (hs t0)), (1, .int x1)]) hx hb gd_Model_sumOf_3 rfl hl (by decide) rfl (fun ls hl => ?_)
  exact gx_Model_sumOf_L4 F C hr hk  F u t0 x1 0 0 _ _ _ o_t0 hW (lv_sub hl [2, 3, 1, 0] rfl) h

set_option maxRecDepth 20000 in
theorem gc_Model_sumOf (l : Launch) {D : va_G} {cA : Nat → ClassId} {hs : Nat → Nat} {z : gw_Sh} (F : Nat) {u : gw_St} {r0 : (Int32 × gw_St)} {t0 : Nat} {x1 : Int32} (o_t0 : gw_ok z t0 9) (h : gf_Model_sumOf F z u t0 x1 = some r0) (sz : Nat) : gw_Mi l gy_Model_sumOf gb_Model_sumOf 4 (some .int) gr_Model_sumOf [.ref (hs t0), .int x1] D cA hs z u sz r0 := by
  refine gw_enter (by decide) (Nat.le_of_ble_eq_true rfl) ?_
  intro p e s m below meth c ls hsz C hW hr hk _ hl
  subst hsz
  exact gx_Model_sumOf_b0 F C hr hk u t0 x1 o_t0 hW (lv_sub hl [0, 1] rfl) h
-- GearDeskModel.isLater(II)Z
theorem gk_408 : Cond.fieldLink R_Model 8 R_Model "products" "[I" ∈ gt_T := gt_m6 (List.mem_of_getElem? (i := 62) rfl) rfl
theorem gk_409 : Cond.fieldLink R_Model 17 R_Model "sums" "[I" ∈ gt_T := gt_m6 (List.mem_of_getElem? (i := 64) rfl) rfl
theorem gk_410 : Cond.fieldLink R_Model 14 R_Model "codes" "[I" ∈ gt_T := gt_m6 (List.mem_of_getElem? (i := 63) rfl) rfl
def gy_Model_isLater : MethodName := ⟨R_Model, "isLater", "(II)Z"⟩
abbrev gb_Model_isLater : ByteArray := prog_11_method_11_code
theorem gk_411 : Cond.code gy_Model_isLater gb_Model_isLater 3 (some .boolean) ∈ gt_T := gt_m7 (List.mem_of_getElem? (i := 14) rfl) rfl
def gr_Model_isLater : Room := gw_rm 1 64
theorem gm_Model_isLater : gw_Mth gy_Model_isLater gb_Model_isLater 3 (some .boolean) 2 := ⟨gk_411, gk_377, ⟨by decide +kernel, by decide +kernel⟩, by decide +kernel⟩
theorem gd_Model_isLater_0 : decode gb_Model_isLater 0 = .ok (.aload_n 0, 1) := by decide +kernel
theorem gd_Model_isLater_1 : decode gb_Model_isLater 1 = .ok (.getfield 8, 3) := by decide +kernel
theorem gd_Model_isLater_4 : decode gb_Model_isLater 4 = .ok (.iload_n 1, 1) := by decide +kernel
theorem gd_Model_isLater_5 : decode gb_Model_isLater 5 = .ok (.iaload, 1) := by decide +kernel
theorem gd_Model_isLater_6 : decode gb_Model_isLater 6 = .ok (.aload_n 0, 1) := by decide +kernel
theorem gd_Model_isLater_7 : decode gb_Model_isLater 7 = .ok (.getfield 8, 3) := by decide +kernel
theorem gd_Model_isLater_10 : decode gb_Model_isLater 10 = .ok (.iload_n 2, 1) := by decide +kernel
theorem gd_Model_isLater_11 : decode gb_Model_isLater 11 = .ok (.iaload, 1) := by decide +kernel
theorem gd_Model_isLater_12 : decode gb_Model_isLater 12 = .ok (.if_icmp .eq 26, 3) := by decide +kernel
theorem gd_Model_isLater_15 : decode gb_Model_isLater 15 = .ok (.aload_n 0, 1) := by decide +kernel
theorem gd_Model_isLater_16 : decode gb_Model_isLater 16 = .ok (.getfield 8, 3) := by decide +kernel
theorem gd_Model_isLater_19 : decode gb_Model_isLater 19 = .ok (.iload_n 1, 1) := by decide +kernel
theorem gd_Model_isLater_20 : decode gb_Model_isLater 20 = .ok (.iaload, 1) := by decide +kernel
theorem gd_Model_isLater_21 : decode gb_Model_isLater 21 = .ok (.aload_n 0, 1) := by decide +kernel
theorem gd_Model_isLater_22 : decode gb_Model_isLater 22 = .ok (.getfield 8, 3) := by decide +kernel
theorem gd_Model_isLater_25 : decode gb_Model_isLater 25 = .ok (.iload_n 2, 1) := by decide +kernel
theorem gd_Model_isLater_26 : decode gb_Model_isLater 26 = .ok (.iaload, 1) := by decide +kernel
theorem gd_Model_isLater_27 : decode gb_Model_isLater 27 = .ok (.if_icmp .le 7, 3) := by decide +kernel
theorem gd_Model_isLater_30 : decode gb_Model_isLater 30 = .ok (.iconst 1, 1) := by decide +kernel
theorem gd_Model_isLater_31 : decode gb_Model_isLater 31 = .ok (.goto 65, 3) := by decide +kernel
theorem gd_Model_isLater_34 : decode gb_Model_isLater 34 = .ok (.iconst 0, 1) := by decide +kernel
theorem gd_Model_isLater_35 : decode gb_Model_isLater 35 = .ok (.goto 61, 3) := by decide +kernel
theorem gd_Model_isLater_38 : decode gb_Model_isLater 38 = .ok (.aload_n 0, 1) := by decide +kernel
theorem gd_Model_isLater_39 : decode gb_Model_isLater 39 = .ok (.getfield 17, 3) := by decide +kernel
theorem gd_Model_isLater_42 : decode gb_Model_isLater 42 = .ok (.iload_n 1, 1) := by decide +kernel
theorem gd_Model_isLater_43 : decode gb_Model_isLater 43 = .ok (.iaload, 1) := by decide +kernel
theorem gd_Model_isLater_44 : decode gb_Model_isLater 44 = .ok (.aload_n 0, 1) := by decide +kernel
theorem gd_Model_isLater_45 : decode gb_Model_isLater 45 = .ok (.getfield 17, 3) := by decide +kernel
theorem gd_Model_isLater_48 : decode gb_Model_isLater 48 = .ok (.iload_n 2, 1) := by decide +kernel
theorem gd_Model_isLater_49 : decode gb_Model_isLater 49 = .ok (.iaload, 1) := by decide +kernel
theorem gd_Model_isLater_50 : decode gb_Model_isLater 50 = .ok (.if_icmp .eq 26, 3) := by decide +kernel
theorem gd_Model_isLater_53 : decode gb_Model_isLater 53 = .ok (.aload_n 0, 1) := by decide +kernel
theorem gd_Model_isLater_54 : decode gb_Model_isLater 54 = .ok (.getfield 17, 3) := by decide +kernel
theorem gd_Model_isLater_57 : decode gb_Model_isLater 57 = .ok (.iload_n 1, 1) := by decide +kernel
theorem gd_Model_isLater_58 : decode gb_Model_isLater 58 = .ok (.iaload, 1) := by decide +kernel
theorem gd_Model_isLater_59 : decode gb_Model_isLater 59 = .ok (.aload_n 0, 1) := by decide +kernel
theorem gd_Model_isLater_60 : decode gb_Model_isLater 60 = .ok (.getfield 17, 3) := by decide +kernel
theorem gd_Model_isLater_63 : decode gb_Model_isLater 63 = .ok (.iload_n 2, 1) := by decide +kernel
theorem gd_Model_isLater_64 : decode gb_Model_isLater 64 = .ok (.iaload, 1) := by decide +kernel
theorem gd_Model_isLater_65 : decode gb_Model_isLater 65 = .ok (.if_icmp .le 7, 3) := by decide +kernel
theorem gd_Model_isLater_68 : decode gb_Model_isLater 68 = .ok (.iconst 1, 1) := by decide +kernel
theorem gd_Model_isLater_69 : decode gb_Model_isLater 69 = .ok (.goto 27, 3) := by decide +kernel
theorem gd_Model_isLater_72 : decode gb_Model_isLater 72 = .ok (.iconst 0, 1) := by decide +kernel
theorem gd_Model_isLater_73 : decode gb_Model_isLater 73 = .ok (.goto 23, 3) := by decide +kernel
theorem gd_Model_isLater_76 : decode gb_Model_isLater 76 = .ok (.aload_n 0, 1) := by decide +kernel
theorem gd_Model_isLater_77 : decode gb_Model_isLater 77 = .ok (.getfield 14, 3) := by decide +kernel
theorem gd_Model_isLater_80 : decode gb_Model_isLater 80 = .ok (.iload_n 1, 1) := by decide +kernel
theorem gd_Model_isLater_81 : decode gb_Model_isLater 81 = .ok (.iaload, 1) := by decide +kernel
theorem gd_Model_isLater_82 : decode gb_Model_isLater 82 = .ok (.aload_n 0, 1) := by decide +kernel
theorem gd_Model_isLater_83 : decode gb_Model_isLater 83 = .ok (.getfield 14, 3) := by decide +kernel
theorem gd_Model_isLater_86 : decode gb_Model_isLater 86 = .ok (.iload_n 2, 1) := by decide +kernel
theorem gd_Model_isLater_87 : decode gb_Model_isLater 87 = .ok (.iaload, 1) := by decide +kernel
theorem gd_Model_isLater_88 : decode gb_Model_isLater 88 = .ok (.if_icmp .le 7, 3) := by decide +kernel
theorem gd_Model_isLater_91 : decode gb_Model_isLater 91 = .ok (.iconst 1, 1) := by decide +kernel
theorem gd_Model_isLater_92 : decode gb_Model_isLater 92 = .ok (.goto 4, 3) := by decide +kernel
theorem gd_Model_isLater_95 : decode gb_Model_isLater 95 = .ok (.iconst 0, 1) := by decide +kernel
theorem gd_Model_isLater_96 : decode gb_Model_isLater 96 = .ok (.ireturn, 1) := by decide +kernel
def gf_Model_isLater_b96 (F : Nat) (z : gw_Sh)  (u : gw_St) (sx0 : Int32) : Option (Int32 × gw_St) :=
  if ¬ (sx0 &&& 1 = sx0) then none else some (sx0, u)
def gf_Model_isLater_b0 (F : Nat) (z : gw_Sh)  (u : gw_St) (t0 : Nat) (x1 : Int32) (x2 : Int32) : Option (Int32 × gw_St) :=
  gf_nn (u.2.2 t0 10) fun q2 => if (x1 < 0 ∨ z.2.2 q2 ≤ (x1).toNatClampNeg) then none else gf_nn (u.2.2 t0 10) fun q5 => if (x2 < 0 ∨ z.2.2 q5 ≤ (x2).toNatClampNeg) then none else if (u.1 q2 (x1).toNatClampNeg) = (u.1 q5 (x2).toNatClampNeg) then (gf_nn (u.2.2 t0 12) fun q9 => if (x1 < 0 ∨ z.2.2 q9 ≤ (x1).toNatClampNeg) then none else gf_nn (u.2.2 t0 12) fun q12 => if (x2 < 0 ∨ z.2.2 q12 ≤ (x2).toNatClampNeg) then none else if (u.1 q9 (x1).toNatClampNeg) = (u.1 q12 (x2).toNatClampNeg) then (gf_nn (u.2.2 t0 11) fun q16 => if (x1 < 0 ∨ z.2.2 q16 ≤ (x1).toNatClampNeg) then none else gf_nn (u.2.2 t0 11) fun q19 => if (x2 < 0 ∨ z.2.2 q19 ≤ (x2).toNatClampNeg) then none else if (u.1 q16 (x1).toNatClampNeg) ≤ (u.1 q19 (x2).toNatClampNeg) then (gf_Model_isLater_b96 F z  u 0) else (gf_Model_isLater_b96 F z  u 1)) else (gf_nn (u.2.2 t0 12) fun q23 => if (x1 < 0 ∨ z.2.2 q23 ≤ (x1).toNatClampNeg) then none else gf_nn (u.2.2 t0 12) fun q26 => if (x2 < 0 ∨ z.2.2 q26 ≤ (x2).toNatClampNeg) then none else if (u.1 q23 (x1).toNatClampNeg) ≤ (u.1 q26 (x2).toNatClampNeg) then (gf_Model_isLater_b96 F z  u 0) else (gf_Model_isLater_b96 F z  u 1))) else (gf_nn (u.2.2 t0 10) fun q30 => if (x1 < 0 ∨ z.2.2 q30 ≤ (x1).toNatClampNeg) then none else gf_nn (u.2.2 t0 10) fun q33 => if (x2 < 0 ∨ z.2.2 q33 ≤ (x2).toNatClampNeg) then none else if (u.1 q30 (x1).toNatClampNeg) ≤ (u.1 q33 (x2).toNatClampNeg) then (gf_Model_isLater_b96 F z  u 0) else (gf_Model_isLater_b96 F z  u 1))
def gf_Model_isLater (F : Nat) (z : gw_Sh) (u : gw_St) (t0 : Nat) (x1 : Int32) (x2 : Int32) : Option (Int32 × gw_St) := gf_Model_isLater_b0 F z  u t0 x1 x2
set_option maxHeartbeats 4000000 in
set_option maxRecDepth 20000 in
theorem gx_Model_isLater_b96 {p : Program} {l : Launch} {e : Env} {s : State} {m : MethodId} {args : Array Value} {below : List Frame} {meth : Method} {c : Code} {D : va_G} {cA : Nat → ClassId} {hs : Nat → Nat} {z : gw_Sh} (F : Nat) {r0 : (Int32 × gw_St)} (C : gw_Cx p s m args c gb_Model_isLater 3 R_Model D cA) (hr : meth.sig.returnType = (some .boolean)) (hk : meth.locks = false) (u : gw_St) (sx0 : Int32)  {H : Heap} {locs : List Loc} {ls : Array Slot} (hW : gw_Wx D cA hs z s u H locs) (hl : lv_has ls 3 []) (h : gf_Model_isLater_b96 F z   u sx0 = some r0) : gw_Gi p l e gr_Model_isLater s m args below meth c D cA hs z r0 H locs ls 96 [.int sx0] := by
  obtain ⟨hx, hb, hml, hown, hts, hK⟩ := id C
  unfold gf_Model_isLater_b96 at h
  obtain ⟨g1, h⟩ := gf_if_ok h
  obtain rfl := Option.some.inj h
  exact gw_zret C hW hr (Decidable.not_not.mp g1) hk gd_Model_isLater_96

set_option maxHeartbeats 4000000 in
set_option maxRecDepth 20000 in
theorem gx_Model_isLater_b0 {p : Program} {l : Launch} {e : Env} {s : State} {m : MethodId} {args : Array Value} {below : List Frame} {meth : Method} {c : Code} {D : va_G} {cA : Nat → ClassId} {hs : Nat → Nat} {z : gw_Sh} (F : Nat) {r0 : (Int32 × gw_St)} (C : gw_Cx p s m args c gb_Model_isLater 3 R_Model D cA) (hr : meth.sig.returnType = (some .boolean)) (hk : meth.locks = false) (u : gw_St) (t0 : Nat) (x1 : Int32) (x2 : Int32) (o_t0 : gw_ok z t0 9) {H : Heap} {locs : List Loc} {ls : Array Slot} (hW : gw_Wx D cA hs z s u H locs) (hl : lv_has ls 3 [(0, .ref (hs t0)), (1, .int x1), (2, .int x2)]) (h : gf_Model_isLater_b0 F z   u t0 x1 x2 = some r0) : gw_Gi p l e gr_Model_isLater s m args below meth c D cA hs z r0 H locs ls 0 [] := by
  obtain ⟨hx, hb, hml, hown, hts, hK⟩ := id C
  unfold gf_Model_isLater_b0 at h
  refine lv_aload_n hx hb gd_Model_isLater_0 rfl (lv_at hl 0 rfl) ?_
  obtain ⟨q2, e3, h⟩ := gf_nn_ok h
  refine gw_getr (k := 10) (ty := 10) (ref := R_Model) C hW o_t0 (by decide) rfl gi_Model rfl (by decide) rfl rfl gk_408 gd_Model_isLater_1 e3 ?_
  have o_q2 := hW.ref (d := 10) o_t0 e3 rfl
  refine lv_iload_n hx hb gd_Model_isLater_4 rfl (lv_at hl 1 rfl) ?_
  obtain ⟨g4, h⟩ := gf_if_ok h
  refine gw_iald C hW o_q2 g4 gd_Model_isLater_5 ?_
  refine lv_aload_n hx hb gd_Model_isLater_6 rfl (lv_at hl 0 rfl) ?_
  obtain ⟨q5, e6, h⟩ := gf_nn_ok h
  refine gw_getr (k := 10) (ty := 10) (ref := R_Model) C hW o_t0 (by decide) rfl gi_Model rfl (by decide) rfl rfl gk_408 gd_Model_isLater_7 e6 ?_
  have o_q5 := hW.ref (d := 10) o_t0 e6 rfl
  refine lv_iload_n hx hb gd_Model_isLater_10 rfl (lv_at hl 2 rfl) ?_
  obtain ⟨g7, h⟩ := gf_if_ok h
  refine gw_iald C hW o_q5 g7 gd_Model_isLater_11 ?_
  refine lv_icmp_eq (tgt := 38) hx hb gd_Model_isLater_12 (by decide) (fun c8 => ?_) (fun c8 => ?_)
  · have h := gf_t c8 h
    refine lv_aload_n hx hb gd_Model_isLater_38 rfl (lv_at hl 0 rfl) ?_
    obtain ⟨q9, e10, h⟩ := gf_nn_ok h
    refine gw_getr (k := 12) (ty := 10) (ref := R_Model) C hW o_t0 (by decide) rfl gi_Model rfl (by decide) rfl rfl gk_409 gd_Model_isLater_39 e10 ?_
    have o_q9 := hW.ref (d := 10) o_t0 e10 rfl
    refine lv_iload_n hx hb gd_Model_isLater_42 rfl (lv_at hl 1 rfl) ?_
    obtain ⟨g11, h⟩ := gf_if_ok h
    refine gw_iald C hW o_q9 g11 gd_Model_isLater_43 ?_
    refine lv_aload_n hx hb gd_Model_isLater_44 rfl (lv_at hl 0 rfl) ?_
    obtain ⟨q12, e13, h⟩ := gf_nn_ok h
    refine gw_getr (k := 12) (ty := 10) (ref := R_Model) C hW o_t0 (by decide) rfl gi_Model rfl (by decide) rfl rfl gk_409 gd_Model_isLater_45 e13 ?_
    have o_q12 := hW.ref (d := 10) o_t0 e13 rfl
    refine lv_iload_n hx hb gd_Model_isLater_48 rfl (lv_at hl 2 rfl) ?_
    obtain ⟨g14, h⟩ := gf_if_ok h
    refine gw_iald C hW o_q12 g14 gd_Model_isLater_49 ?_
    refine lv_icmp_eq (tgt := 76) hx hb gd_Model_isLater_50 (by decide) (fun c15 => ?_) (fun c15 => ?_)
    · have h := gf_t c15 h
      refine lv_aload_n hx hb gd_Model_isLater_76 rfl (lv_at hl 0 rfl) ?_
      obtain ⟨q16, e17, h⟩ := gf_nn_ok h
      refine gw_getr (k := 11) (ty := 10) (ref := R_Model) C hW o_t0 (by decide) rfl gi_Model rfl (by decide) rfl rfl gk_410 gd_Model_isLater_77 e17 ?_
      have o_q16 := hW.ref (d := 10) o_t0 e17 rfl
      refine lv_iload_n hx hb gd_Model_isLater_80 rfl (lv_at hl 1 rfl) ?_
      obtain ⟨g18, h⟩ := gf_if_ok h
      refine gw_iald C hW o_q16 g18 gd_Model_isLater_81 ?_
      refine lv_aload_n hx hb gd_Model_isLater_82 rfl (lv_at hl 0 rfl) ?_
      obtain ⟨q19, e20, h⟩ := gf_nn_ok h
      refine gw_getr (k := 11) (ty := 10) (ref := R_Model) C hW o_t0 (by decide) rfl gi_Model rfl (by decide) rfl rfl gk_410 gd_Model_isLater_83 e20 ?_
      have o_q19 := hW.ref (d := 10) o_t0 e20 rfl
      refine lv_iload_n hx hb gd_Model_isLater_86 rfl (lv_at hl 2 rfl) ?_
      obtain ⟨g21, h⟩ := gf_if_ok h
      refine gw_iald C hW o_q19 g21 gd_Model_isLater_87 ?_
      refine lv_icmp_le (tgt := 95) hx hb gd_Model_isLater_88 (by decide) (fun c22 => ?_) (fun c22 => ?_)
      · have h := gf_t c22 h
        refine lv_iconst (v := 0) hx hb gd_Model_isLater_95 (by decide) ?_
        exact gx_Model_isLater_b96 F C hr hk  u 0  hW (lv_sub hl [] rfl) h
      · have h := gf_f c22 h
        refine lv_iconst (v := 1) hx hb gd_Model_isLater_91 (by decide) ?_
        refine lv_goto (tgt := 96) hx hb gd_Model_isLater_92 (by decide) ?_
        exact gx_Model_isLater_b96 F C hr hk  u 1  hW (lv_sub hl [] rfl) h
    · have h := gf_f c15 h
      refine lv_aload_n hx hb gd_Model_isLater_53 rfl (lv_at hl 0 rfl) ?_
      obtain ⟨q23, e24, h⟩ := gf_nn_ok h
      refine gw_getr (k := 12) (ty := 10) (ref := R_Model) C hW o_t0 (by decide) rfl gi_Model rfl (by decide) rfl rfl gk_409 gd_Model_isLater_54 e24 ?_
      have o_q23 := hW.ref (d := 10) o_t0 e24 rfl
      refine lv_iload_n hx hb gd_Model_isLater_57 rfl (lv_at hl 1 rfl) ?_
      obtain ⟨g25, h⟩ := gf_if_ok h
      refine gw_iald C hW o_q23 g25 gd_Model_isLater_58 ?_
      refine lv_aload_n hx hb gd_Model_isLater_59 rfl (lv_at hl 0 rfl) ?_
      obtain ⟨q26, e27, h⟩ := gf_nn_ok h
      refine gw_getr (k := 12) (ty := 10) (ref := R_Model) C hW o_t0 (by decide) rfl gi_Model rfl (by decide) rfl rfl gk_409 gd_Model_isLater_60 e27 ?_
      have o_q26 := hW.ref (d := 10) o_t0 e27 rfl
      refine lv_iload_n hx hb gd_Model_isLater_63 rfl (lv_at hl 2 rfl) ?_
      obtain ⟨g28, h⟩ := gf_if_ok h
      refine gw_iald C hW o_q26 g28 gd_Model_isLater_64 ?_
      refine lv_icmp_le (tgt := 72) hx hb gd_Model_isLater_65 (by decide) (fun c29 => ?_) (fun c29 => ?_)
      · have h := gf_t c29 h
        refine lv_iconst (v := 0) hx hb gd_Model_isLater_72 (by decide) ?_
        refine lv_goto (tgt := 96) hx hb gd_Model_isLater_73 (by decide) ?_
        exact gx_Model_isLater_b96 F C hr hk  u 0  hW (lv_sub hl [] rfl) h
      · have h := gf_f c29 h
        refine lv_iconst (v := 1) hx hb gd_Model_isLater_68 (by decide) ?_
        refine lv_goto (tgt := 96) hx hb gd_Model_isLater_69 (by decide) ?_
        exact gx_Model_isLater_b96 F C hr hk  u 1  hW (lv_sub hl [] rfl) h
  · have h := gf_f c8 h
    refine lv_aload_n hx hb gd_Model_isLater_15 rfl (lv_at hl 0 rfl) ?_
    obtain ⟨q30, e31, h⟩ := gf_nn_ok h
    refine gw_getr (k := 10) (ty := 10) (ref := R_Model) C hW o_t0 (by decide) rfl gi_Model rfl (by decide) rfl rfl gk_408 gd_Model_isLater_16 e31 ?_
    have o_q30 := hW.ref (d := 10) o_t0 e31 rfl
    refine lv_iload_n hx hb gd_Model_isLater_19 rfl (lv_at hl 1 rfl) ?_
    obtain ⟨g32, h⟩ := gf_if_ok h
    refine gw_iald C hW o_q30 g32 gd_Model_isLater_20 ?_
    refine lv_aload_n hx hb gd_Model_isLater_21 rfl (lv_at hl 0 rfl) ?_
    obtain ⟨q33, e34, h⟩ := gf_nn_ok h
    refine gw_getr (k := 10) (ty := 10) (ref := R_Model) C hW o_t0 (by decide) rfl gi_Model rfl (by decide) rfl rfl gk_408 gd_Model_isLater_22 e34 ?_
    have o_q33 := hW.ref (d := 10) o_t0 e34 rfl
    refine lv_iload_n hx hb gd_Model_isLater_25 rfl (lv_at hl 2 rfl) ?_
    obtain ⟨g35, h⟩ := gf_if_ok h
    refine gw_iald C hW o_q33 g35 gd_Model_isLater_26 ?_
    refine lv_icmp_le (tgt := 34) hx hb gd_Model_isLater_27 (by decide) (fun c36 => ?_) (fun c36 => ?_)
    · have h := gf_t c36 h
      refine lv_iconst (v := 0) hx hb gd_Model_isLater_34 (by decide) ?_
      refine lv_goto (tgt := 96) hx hb gd_Model_isLater_35 (by decide) ?_
      exact gx_Model_isLater_b96 F C hr hk  u 0  hW (lv_sub hl [] rfl) h
    · have h := gf_f c36 h
      refine lv_iconst (v := 1) hx hb gd_Model_isLater_30 (by decide) ?_
      refine lv_goto (tgt := 96) hx hb gd_Model_isLater_31 (by decide) ?_
      exact gx_Model_isLater_b96 F C hr hk  u 1  hW (lv_sub hl [] rfl) h

set_option maxRecDepth 20000 in
theorem gc_Model_isLater (l : Launch) {D : va_G} {cA : Nat → ClassId} {hs : Nat → Nat} {z : gw_Sh} (F : Nat) {u : gw_St} {r0 : (Int32 × gw_St)} {t0 : Nat} {x1 : Int32} {x2 : Int32} (o_t0 : gw_ok z t0 9) (h : gf_Model_isLater F z u t0 x1 x2 = some r0) (sz : Nat) : gw_Mi l gy_Model_isLater gb_Model_isLater 3 (some .boolean) gr_Model_isLater [.ref (hs t0), .int x1, .int x2] D cA hs z u sz r0 := by
  refine gw_enter (by decide) (Nat.le_of_ble_eq_true rfl) ?_
  intro p e s m below meth c ls hsz C hW hr hk _ hl
  subst hsz
  exact gx_Model_isLater_b0 F C hr hk u t0 x1 x2 o_t0 hW (lv_sub hl [0, 1, 2] rfl) h
-- GearDeskModel.swap(II)V
def gy_Model_swap : MethodName := ⟨R_Model, "swap", "(II)V"⟩
abbrev gb_Model_swap : ByteArray := prog_11_method_12_code
theorem gk_412 : Cond.code gy_Model_swap gb_Model_swap 4 none ∈ gt_T := gt_m7 (List.mem_of_getElem? (i := 18) rfl) rfl
def gr_Model_swap : Room := gw_rm 1 64
theorem gm_Model_swap : gw_Mth gy_Model_swap gb_Model_swap 4 none 2 := ⟨gk_412, gk_377, ⟨by decide +kernel, by decide +kernel⟩, by decide +kernel⟩
theorem gd_Model_swap_0 : decode gb_Model_swap 0 = .ok (.aload_n 0, 1) := by decide +kernel
theorem gd_Model_swap_1 : decode gb_Model_swap 1 = .ok (.getfield 8, 3) := by decide +kernel
theorem gd_Model_swap_4 : decode gb_Model_swap 4 = .ok (.iload_n 1, 1) := by decide +kernel
theorem gd_Model_swap_5 : decode gb_Model_swap 5 = .ok (.iaload, 1) := by decide +kernel
theorem gd_Model_swap_6 : decode gb_Model_swap 6 = .ok (.istore_n 3, 1) := by decide +kernel
theorem gd_Model_swap_7 : decode gb_Model_swap 7 = .ok (.aload_n 0, 1) := by decide +kernel
theorem gd_Model_swap_8 : decode gb_Model_swap 8 = .ok (.getfield 8, 3) := by decide +kernel
theorem gd_Model_swap_11 : decode gb_Model_swap 11 = .ok (.iload_n 1, 1) := by decide +kernel
theorem gd_Model_swap_12 : decode gb_Model_swap 12 = .ok (.aload_n 0, 1) := by decide +kernel
theorem gd_Model_swap_13 : decode gb_Model_swap 13 = .ok (.getfield 8, 3) := by decide +kernel
theorem gd_Model_swap_16 : decode gb_Model_swap 16 = .ok (.iload_n 2, 1) := by decide +kernel
theorem gd_Model_swap_17 : decode gb_Model_swap 17 = .ok (.iaload, 1) := by decide +kernel
theorem gd_Model_swap_18 : decode gb_Model_swap 18 = .ok (.iastore, 1) := by decide +kernel
theorem gd_Model_swap_19 : decode gb_Model_swap 19 = .ok (.aload_n 0, 1) := by decide +kernel
theorem gd_Model_swap_20 : decode gb_Model_swap 20 = .ok (.getfield 8, 3) := by decide +kernel
theorem gd_Model_swap_23 : decode gb_Model_swap 23 = .ok (.iload_n 2, 1) := by decide +kernel
theorem gd_Model_swap_24 : decode gb_Model_swap 24 = .ok (.iload_n 3, 1) := by decide +kernel
theorem gd_Model_swap_25 : decode gb_Model_swap 25 = .ok (.iastore, 1) := by decide +kernel
theorem gd_Model_swap_26 : decode gb_Model_swap 26 = .ok (.aload_n 0, 1) := by decide +kernel
theorem gd_Model_swap_27 : decode gb_Model_swap 27 = .ok (.getfield 14, 3) := by decide +kernel
theorem gd_Model_swap_30 : decode gb_Model_swap 30 = .ok (.iload_n 1, 1) := by decide +kernel
theorem gd_Model_swap_31 : decode gb_Model_swap 31 = .ok (.iaload, 1) := by decide +kernel
theorem gd_Model_swap_32 : decode gb_Model_swap 32 = .ok (.istore_n 3, 1) := by decide +kernel
theorem gd_Model_swap_33 : decode gb_Model_swap 33 = .ok (.aload_n 0, 1) := by decide +kernel
theorem gd_Model_swap_34 : decode gb_Model_swap 34 = .ok (.getfield 14, 3) := by decide +kernel
theorem gd_Model_swap_37 : decode gb_Model_swap 37 = .ok (.iload_n 1, 1) := by decide +kernel
theorem gd_Model_swap_38 : decode gb_Model_swap 38 = .ok (.aload_n 0, 1) := by decide +kernel
theorem gd_Model_swap_39 : decode gb_Model_swap 39 = .ok (.getfield 14, 3) := by decide +kernel
theorem gd_Model_swap_42 : decode gb_Model_swap 42 = .ok (.iload_n 2, 1) := by decide +kernel
theorem gd_Model_swap_43 : decode gb_Model_swap 43 = .ok (.iaload, 1) := by decide +kernel
theorem gd_Model_swap_44 : decode gb_Model_swap 44 = .ok (.iastore, 1) := by decide +kernel
theorem gd_Model_swap_45 : decode gb_Model_swap 45 = .ok (.aload_n 0, 1) := by decide +kernel
theorem gd_Model_swap_46 : decode gb_Model_swap 46 = .ok (.getfield 14, 3) := by decide +kernel
theorem gd_Model_swap_49 : decode gb_Model_swap 49 = .ok (.iload_n 2, 1) := by decide +kernel
theorem gd_Model_swap_50 : decode gb_Model_swap 50 = .ok (.iload_n 3, 1) := by decide +kernel
theorem gd_Model_swap_51 : decode gb_Model_swap 51 = .ok (.iastore, 1) := by decide +kernel
theorem gd_Model_swap_52 : decode gb_Model_swap 52 = .ok (.aload_n 0, 1) := by decide +kernel
theorem gd_Model_swap_53 : decode gb_Model_swap 53 = .ok (.getfield 17, 3) := by decide +kernel
theorem gd_Model_swap_56 : decode gb_Model_swap 56 = .ok (.iload_n 1, 1) := by decide +kernel
theorem gd_Model_swap_57 : decode gb_Model_swap 57 = .ok (.iaload, 1) := by decide +kernel
theorem gd_Model_swap_58 : decode gb_Model_swap 58 = .ok (.istore_n 3, 1) := by decide +kernel
theorem gd_Model_swap_59 : decode gb_Model_swap 59 = .ok (.aload_n 0, 1) := by decide +kernel
theorem gd_Model_swap_60 : decode gb_Model_swap 60 = .ok (.getfield 17, 3) := by decide +kernel
theorem gd_Model_swap_63 : decode gb_Model_swap 63 = .ok (.iload_n 1, 1) := by decide +kernel
theorem gd_Model_swap_64 : decode gb_Model_swap 64 = .ok (.aload_n 0, 1) := by decide +kernel
theorem gd_Model_swap_65 : decode gb_Model_swap 65 = .ok (.getfield 17, 3) := by decide +kernel
theorem gd_Model_swap_68 : decode gb_Model_swap 68 = .ok (.iload_n 2, 1) := by decide +kernel
theorem gd_Model_swap_69 : decode gb_Model_swap 69 = .ok (.iaload, 1) := by decide +kernel
theorem gd_Model_swap_70 : decode gb_Model_swap 70 = .ok (.iastore, 1) := by decide +kernel
theorem gd_Model_swap_71 : decode gb_Model_swap 71 = .ok (.aload_n 0, 1) := by decide +kernel
theorem gd_Model_swap_72 : decode gb_Model_swap 72 = .ok (.getfield 17, 3) := by decide +kernel
theorem gd_Model_swap_75 : decode gb_Model_swap 75 = .ok (.iload_n 2, 1) := by decide +kernel
theorem gd_Model_swap_76 : decode gb_Model_swap 76 = .ok (.iload_n 3, 1) := by decide +kernel
theorem gd_Model_swap_77 : decode gb_Model_swap 77 = .ok (.iastore, 1) := by decide +kernel
theorem gd_Model_swap_78 : decode gb_Model_swap 78 = .ok (.return_, 1) := by decide +kernel
def gf_Model_swap_b0 (F : Nat) (z : gw_Sh)  (u : gw_St) (t0 : Nat) (x1 : Int32) (x2 : Int32) : Option gw_St :=
  gf_nn (u.2.2 t0 10) fun q1 => if (x1 < 0 ∨ z.2.2 q1 ≤ (x1).toNatClampNeg) then none else gf_nm (u.1 q1 (x1).toNatClampNeg) fun a4 => gf_nn (u.2.2 t0 10) fun q6 => gf_nn (u.2.2 t0 10) fun q8 => if (x2 < 0 ∨ z.2.2 q8 ≤ (x2).toNatClampNeg) then none else if (x1 < 0 ∨ z.2.2 q6 ≤ (x1).toNatClampNeg) then none else gf_nm (gw_wi u q6 (x1).toNatClampNeg (u.1 q8 (x2).toNatClampNeg)) fun u12 => gf_nn (u12.2.2 t0 10) fun q14 => if (x2 < 0 ∨ z.2.2 q14 ≤ (x2).toNatClampNeg) then none else gf_nm (gw_wi u12 q14 (x2).toNatClampNeg a4) fun u17 => gf_nn (u17.2.2 t0 11) fun q19 => if (x1 < 0 ∨ z.2.2 q19 ≤ (x1).toNatClampNeg) then none else gf_nm (u17.1 q19 (x1).toNatClampNeg) fun a22 => gf_nn (u17.2.2 t0 11) fun q24 => gf_nn (u17.2.2 t0 11) fun q26 => if (x2 < 0 ∨ z.2.2 q26 ≤ (x2).toNatClampNeg) then none else if (x1 < 0 ∨ z.2.2 q24 ≤ (x1).toNatClampNeg) then none else gf_nm (gw_wi u17 q24 (x1).toNatClampNeg (u17.1 q26 (x2).toNatClampNeg)) fun u30 => gf_nn (u30.2.2 t0 11) fun q32 => if (x2 < 0 ∨ z.2.2 q32 ≤ (x2).toNatClampNeg) then none else gf_nm (gw_wi u30 q32 (x2).toNatClampNeg a22) fun u35 => gf_nn (u35.2.2 t0 12) fun q37 => if (x1 < 0 ∨ z.2.2 q37 ≤ (x1).toNatClampNeg) then none else gf_nm (u35.1 q37 (x1).toNatClampNeg) fun a40 => gf_nn (u35.2.2 t0 12) fun q42 => gf_nn (u35.2.2 t0 12) fun q44 => if (x2 < 0 ∨ z.2.2 q44 ≤ (x2).toNatClampNeg) then none else if (x1 < 0 ∨ z.2.2 q42 ≤ (x1).toNatClampNeg) then none else gf_nm (gw_wi u35 q42 (x1).toNatClampNeg (u35.1 q44 (x2).toNatClampNeg)) fun u48 => gf_nn (u48.2.2 t0 12) fun q50 => if (x2 < 0 ∨ z.2.2 q50 ≤ (x2).toNatClampNeg) then none else gf_nm (gw_wi u48 q50 (x2).toNatClampNeg a40) fun u53 => some u53
def gf_Model_swap (F : Nat) (z : gw_Sh) (u : gw_St) (t0 : Nat) (x1 : Int32) (x2 : Int32) : Option gw_St := gf_Model_swap_b0 F z  u t0 x1 x2
set_option maxHeartbeats 4000000 in
set_option maxRecDepth 20000 in
theorem gx_Model_swap_b0 {p : Program} {l : Launch} {e : Env} {s : State} {m : MethodId} {args : Array Value} {below : List Frame} {meth : Method} {c : Code} {D : va_G} {cA : Nat → ClassId} {hs : Nat → Nat} {z : gw_Sh} (F : Nat) {r0 : gw_St} (C : gw_Cx p s m args c gb_Model_swap 4 R_Model D cA) (hr : meth.sig.returnType = none) (hk : meth.locks = false) (u : gw_St) (t0 : Nat) (x1 : Int32) (x2 : Int32) (o_t0 : gw_ok z t0 9) {H : Heap} {locs : List Loc} {ls : Array Slot} (hW : gw_Wx D cA hs z s u H locs) (hl : lv_has ls 4 [(0, .ref (hs t0)), (1, .int x1), (2, .int x2)]) (h : gf_Model_swap_b0 F z   u t0 x1 x2 = some r0) : gw_Gv p l e gr_Model_swap s m args below meth c D cA hs z r0 H locs ls 0 [] := by
  obtain ⟨hx, hb, hml, hown, hts, hK⟩ := id C
  unfold gf_Model_swap_b0 at h
  refine lv_aload_n hx hb gd_Model_swap_0 rfl (lv_at hl 0 rfl) ?_
  obtain ⟨q1, e2, h⟩ := gf_nn_ok h
  refine gw_getr (k := 10) (ty := 10) (ref := R_Model) C hW o_t0 (by decide) rfl gi_Model rfl (by decide) rfl rfl gk_408 gd_Model_swap_1 e2 ?_
  have o_q1 := hW.ref (d := 10) o_t0 e2 rfl
  refine lv_iload_n hx hb gd_Model_swap_4 rfl (lv_at hl 1 rfl) ?_
  obtain ⟨g3, h⟩ := gf_if_ok h
  refine gw_iald C hW o_q1 g3 gd_Model_swap_5 ?_
  refine lv_topi (fun a4 e5 => ?_)
  have h := gf_nm_ok e5 h
  refine lv_istore_n (lv' := [(3, .int a4), (0, .ref (hs t0)), (1, .int x1), (2, .int x2)]) hx hb gd_Model_swap_6 rfl hl (by decide) rfl (fun ls hl => ?_)
  refine lv_aload_n hx hb gd_Model_swap_7 rfl (lv_at hl 1 rfl) ?_
  obtain ⟨q6, e7, h⟩ := gf_nn_ok h
  refine gw_getr (k := 10) (ty := 10) (ref := R_Model) C hW o_t0 (by decide) rfl gi_Model rfl (by decide) rfl rfl gk_408 gd_Model_swap_8 e7 ?_
  have o_q6 := hW.ref (d := 10) o_t0 e7 rfl
  refine lv_iload_n hx hb gd_Model_swap_11 rfl (lv_at hl 2 rfl) ?_
  refine lv_aload_n hx hb gd_Model_swap_12 rfl (lv_at hl 1 rfl) ?_
  obtain ⟨q8, e9, h⟩ := gf_nn_ok h
  refine gw_getr (k := 10) (ty := 10) (ref := R_Model) C hW o_t0 (by decide) rfl gi_Model rfl (by decide) rfl rfl gk_408 gd_Model_swap_13 e9 ?_
  have o_q8 := hW.ref (d := 10) o_t0 e9 rfl
  refine lv_iload_n hx hb gd_Model_swap_16 rfl (lv_at hl 3 rfl) ?_
  obtain ⟨g10, h⟩ := gf_if_ok h
  refine gw_iald C hW o_q8 g10 gd_Model_swap_17 ?_
  obtain ⟨g11, h⟩ := gf_if_ok h
  refine gw_iast C hW o_q6 g11 gd_Model_swap_18 (fun u12 H locs e13 hW => ?_)
  have h := gf_nm_ok e13 h
  refine lv_aload_n hx hb gd_Model_swap_19 rfl (lv_at hl 1 rfl) ?_
  obtain ⟨q14, e15, h⟩ := gf_nn_ok h
  refine gw_getr (k := 10) (ty := 10) (ref := R_Model) C hW o_t0 (by decide) rfl gi_Model rfl (by decide) rfl rfl gk_408 gd_Model_swap_20 e15 ?_
  have o_q14 := hW.ref (d := 10) o_t0 e15 rfl
  refine lv_iload_n hx hb gd_Model_swap_23 rfl (lv_at hl 3 rfl) ?_
  refine lv_iload_n hx hb gd_Model_swap_24 rfl (lv_at hl 0 rfl) ?_
  obtain ⟨g16, h⟩ := gf_if_ok h
  refine gw_iast C hW o_q14 g16 gd_Model_swap_25 (fun u17 H locs e18 hW => ?_)
  have h := gf_nm_ok e18 h
  refine lv_aload_n hx hb gd_Model_swap_26 rfl (lv_at hl 1 rfl) ?_
  obtain ⟨q19, e20, h⟩ := gf_nn_ok h
  refine gw_getr (k := 11) (ty := 10) (ref := R_Model) C hW o_t0 (by decide) rfl gi_Model rfl (by decide) rfl rfl gk_410 gd_Model_swap_27 e20 ?_
  have o_q19 := hW.ref (d := 10) o_t0 e20 rfl
  refine lv_iload_n hx hb gd_Model_swap_30 rfl (lv_at hl 2 rfl) ?_
  obtain ⟨g21, h⟩ := gf_if_ok h
  refine gw_iald C hW o_q19 g21 gd_Model_swap_31 ?_
  refine lv_topi (fun a22 e23 => ?_)
  have h := gf_nm_ok e23 h
  refine lv_istore_n (lv' := [(3, .int a22), (0, .ref (hs t0)), (1, .int x1), (2, .int x2)]) hx hb gd_Model_swap_32 rfl hl (by decide) rfl (fun ls hl => ?_)
  refine lv_aload_n hx hb gd_Model_swap_33 rfl (lv_at hl 1 rfl) ?_
  obtain ⟨q24, e25, h⟩ := gf_nn_ok h
  refine gw_getr (k := 11) (ty := 10) (ref := R_Model) C hW o_t0 (by decide) rfl gi_Model rfl (by decide) rfl rfl gk_410 gd_Model_swap_34 e25 ?_
  have o_q24 := hW.ref (d := 10) o_t0 e25 rfl
  refine lv_iload_n hx hb gd_Model_swap_37 rfl (lv_at hl 2 rfl) ?_
  refine lv_aload_n hx hb gd_Model_swap_38 rfl (lv_at hl 1 rfl) ?_
  obtain ⟨q26, e27, h⟩ := gf_nn_ok h
  refine gw_getr (k := 11) (ty := 10) (ref := R_Model) C hW o_t0 (by decide) rfl gi_Model rfl (by decide) rfl rfl gk_410 gd_Model_swap_39 e27 ?_
  have o_q26 := hW.ref (d := 10) o_t0 e27 rfl
  refine lv_iload_n hx hb gd_Model_swap_42 rfl (lv_at hl 3 rfl) ?_
  obtain ⟨g28, h⟩ := gf_if_ok h
  refine gw_iald C hW o_q26 g28 gd_Model_swap_43 ?_
  obtain ⟨g29, h⟩ := gf_if_ok h
  refine gw_iast C hW o_q24 g29 gd_Model_swap_44 (fun u30 H locs e31 hW => ?_)
  have h := gf_nm_ok e31 h
  refine lv_aload_n hx hb gd_Model_swap_45 rfl (lv_at hl 1 rfl) ?_
  obtain ⟨q32, e33, h⟩ := gf_nn_ok h
  refine gw_getr (k := 11) (ty := 10) (ref := R_Model) C hW o_t0 (by decide) rfl gi_Model rfl (by decide) rfl rfl gk_410 gd_Model_swap_46 e33 ?_
  have o_q32 := hW.ref (d := 10) o_t0 e33 rfl
  refine lv_iload_n hx hb gd_Model_swap_49 rfl (lv_at hl 3 rfl) ?_
  refine lv_iload_n hx hb gd_Model_swap_50 rfl (lv_at hl 0 rfl) ?_
  obtain ⟨g34, h⟩ := gf_if_ok h
  refine gw_iast C hW o_q32 g34 gd_Model_swap_51 (fun u35 H locs e36 hW => ?_)
  have h := gf_nm_ok e36 h
  refine lv_aload_n hx hb gd_Model_swap_52 rfl (lv_at hl 1 rfl) ?_
  obtain ⟨q37, e38, h⟩ := gf_nn_ok h
  refine gw_getr (k := 12) (ty := 10) (ref := R_Model) C hW o_t0 (by decide) rfl gi_Model rfl (by decide) rfl rfl gk_409 gd_Model_swap_53 e38 ?_
  have o_q37 := hW.ref (d := 10) o_t0 e38 rfl
  refine lv_iload_n hx hb gd_Model_swap_56 rfl (lv_at hl 2 rfl) ?_
  obtain ⟨g39, h⟩ := gf_if_ok h
  refine gw_iald C hW o_q37 g39 gd_Model_swap_57 ?_
  refine lv_topi (fun a40 e41 => ?_)
  have h := gf_nm_ok e41 h
  refine lv_istore_n (lv' := [(3, .int a40), (0, .ref (hs t0)), (1, .int x1), (2, .int x2)]) hx hb gd_Model_swap_58 rfl hl (by decide) rfl (fun ls hl => ?_)
  refine lv_aload_n hx hb gd_Model_swap_59 rfl (lv_at hl 1 rfl) ?_
  obtain ⟨q42, e43, h⟩ := gf_nn_ok h
  refine gw_getr (k := 12) (ty := 10) (ref := R_Model) C hW o_t0 (by decide) rfl gi_Model rfl (by decide) rfl rfl gk_409 gd_Model_swap_60 e43 ?_
  have o_q42 := hW.ref (d := 10) o_t0 e43 rfl
  refine lv_iload_n hx hb gd_Model_swap_63 rfl (lv_at hl 2 rfl) ?_
  refine lv_aload_n hx hb gd_Model_swap_64 rfl (lv_at hl 1 rfl) ?_
  obtain ⟨q44, e45, h⟩ := gf_nn_ok h
  refine gw_getr (k := 12) (ty := 10) (ref := R_Model) C hW o_t0 (by decide) rfl gi_Model rfl (by decide) rfl rfl gk_409 gd_Model_swap_65 e45 ?_
  have o_q44 := hW.ref (d := 10) o_t0 e45 rfl
  refine lv_iload_n hx hb gd_Model_swap_68 rfl (lv_at hl 3 rfl) ?_
  obtain ⟨g46, h⟩ := gf_if_ok h
  refine gw_iald C hW o_q44 g46 gd_Model_swap_69 ?_
  obtain ⟨g47, h⟩ := gf_if_ok h
  refine gw_iast C hW o_q42 g47 gd_Model_swap_70 (fun u48 H locs e49 hW => ?_)
  have h := gf_nm_ok e49 h
  refine lv_aload_n hx hb gd_Model_swap_71 rfl (lv_at hl 1 rfl) ?_
  obtain ⟨q50, e51, h⟩ := gf_nn_ok h
  refine gw_getr (k := 12) (ty := 10) (ref := R_Model) C hW o_t0 (by decide) rfl gi_Model rfl (by decide) rfl rfl gk_409 gd_Model_swap_72 e51 ?_
  have o_q50 := hW.ref (d := 10) o_t0 e51 rfl
  refine lv_iload_n hx hb gd_Model_swap_75 rfl (lv_at hl 3 rfl) ?_
  refine lv_iload_n hx hb gd_Model_swap_76 rfl (lv_at hl 0 rfl) ?_
  obtain ⟨g52, h⟩ := gf_if_ok h
  refine gw_iast C hW o_q50 g52 gd_Model_swap_77 (fun u53 H locs e54 hW => ?_)
  have h := gf_nm_ok e54 h
  obtain rfl := Option.some.inj h
  exact gw_vret C hW hr hk gd_Model_swap_78

set_option maxRecDepth 20000 in
theorem gc_Model_swap (l : Launch) {D : va_G} {cA : Nat → ClassId} {hs : Nat → Nat} {z : gw_Sh} (F : Nat) {u : gw_St} {r0 : gw_St} {t0 : Nat} {x1 : Int32} {x2 : Int32} (o_t0 : gw_ok z t0 9) (h : gf_Model_swap F z u t0 x1 x2 = some r0) (sz : Nat) : gw_Mv l gy_Model_swap gb_Model_swap 4 none gr_Model_swap [.ref (hs t0), .int x1, .int x2] D cA hs z u sz r0 := by
  refine gw_enter (by decide) (Nat.le_of_ble_eq_true rfl) ?_
  intro p e s m below meth c ls hsz C hW hr hk _ hl
  subst hsz
  exact gx_Model_swap_b0 F C hr hk u t0 x1 x2 o_t0 hW (lv_sub hl [0, 1, 2] rfl) h
-- GearDeskModel.sink(II)V
theorem gk_413 : Cond.methodLink R_Model 160 gy_Model_isLater ∈ gt_T := gt_m7 (List.mem_of_getElem? (i := 11) rfl) rfl
theorem gk_414 : Cond.instanceMethod gy_Model_isLater ∈ gt_T := gt_m7 (List.mem_of_getElem? (i := 13) rfl) rfl
theorem gk_415 : Cond.selects R_Model gy_Model_isLater gy_Model_isLater ∈ gt_T := gt_p3 (List.mem_of_getElem? (i := 7) rfl) rfl
theorem gk_416 : Cond.methodLink R_Model 164 gy_Model_swap ∈ gt_T := gt_m7 (List.mem_of_getElem? (i := 15) rfl) rfl
theorem gk_417 : Cond.instanceMethod gy_Model_swap ∈ gt_T := gt_m7 (List.mem_of_getElem? (i := 17) rfl) rfl
theorem gk_418 : Cond.selects R_Model gy_Model_swap gy_Model_swap ∈ gt_T := gt_p3 (List.mem_of_getElem? (i := 8) rfl) rfl
def gy_Model_sink : MethodName := ⟨R_Model, "sink", "(II)V"⟩
abbrev gb_Model_sink : ByteArray := prog_11_method_13_code
theorem gk_419 : Cond.code gy_Model_sink gb_Model_sink 6 none ∈ gt_T := gt_m7 (List.mem_of_getElem? (i := 10) rfl) rfl
def gr_Model_sink : Room := gw_rm 2 87
theorem gm_Model_sink : gw_Mth gy_Model_sink gb_Model_sink 6 none 2 := ⟨gk_419, gk_377, ⟨by decide +kernel, by decide +kernel⟩, by decide +kernel⟩
theorem gd_Model_sink_0 : decode gb_Model_sink 0 = .ok (.iload_n 1, 1) := by decide +kernel
theorem gd_Model_sink_1 : decode gb_Model_sink 1 = .ok (.istore_n 3, 1) := by decide +kernel
theorem gd_Model_sink_2 : decode gb_Model_sink 2 = .ok (.iconst 1, 1) := by decide +kernel
theorem gd_Model_sink_3 : decode gb_Model_sink 3 = .ok (.istore 4, 2) := by decide +kernel
theorem gd_Model_sink_5 : decode gb_Model_sink 5 = .ok (.iload 4, 2) := by decide +kernel
theorem gd_Model_sink_7 : decode gb_Model_sink 7 = .ok (.ifCond .eq 70, 3) := by decide +kernel
theorem gd_Model_sink_10 : decode gb_Model_sink 10 = .ok (.iconst 2, 1) := by decide +kernel
theorem gd_Model_sink_11 : decode gb_Model_sink 11 = .ok (.iload_n 3, 1) := by decide +kernel
theorem gd_Model_sink_12 : decode gb_Model_sink 12 = .ok (.imul, 1) := by decide +kernel
theorem gd_Model_sink_13 : decode gb_Model_sink 13 = .ok (.iconst 1, 1) := by decide +kernel
theorem gd_Model_sink_14 : decode gb_Model_sink 14 = .ok (.iadd, 1) := by decide +kernel
theorem gd_Model_sink_15 : decode gb_Model_sink 15 = .ok (.iload_n 2, 1) := by decide +kernel
theorem gd_Model_sink_16 : decode gb_Model_sink 16 = .ok (.if_icmp .ge 61, 3) := by decide +kernel
theorem gd_Model_sink_19 : decode gb_Model_sink 19 = .ok (.iconst 2, 1) := by decide +kernel
theorem gd_Model_sink_20 : decode gb_Model_sink 20 = .ok (.iload_n 3, 1) := by decide +kernel
theorem gd_Model_sink_21 : decode gb_Model_sink 21 = .ok (.imul, 1) := by decide +kernel
theorem gd_Model_sink_22 : decode gb_Model_sink 22 = .ok (.iconst 1, 1) := by decide +kernel
theorem gd_Model_sink_23 : decode gb_Model_sink 23 = .ok (.iadd, 1) := by decide +kernel
theorem gd_Model_sink_24 : decode gb_Model_sink 24 = .ok (.istore 5, 2) := by decide +kernel
theorem gd_Model_sink_26 : decode gb_Model_sink 26 = .ok (.iload 5, 2) := by decide +kernel
theorem gd_Model_sink_28 : decode gb_Model_sink 28 = .ok (.iconst 1, 1) := by decide +kernel
theorem gd_Model_sink_29 : decode gb_Model_sink 29 = .ok (.iadd, 1) := by decide +kernel
theorem gd_Model_sink_30 : decode gb_Model_sink 30 = .ok (.iload_n 2, 1) := by decide +kernel
theorem gd_Model_sink_31 : decode gb_Model_sink 31 = .ok (.if_icmp .ge 19, 3) := by decide +kernel
theorem gd_Model_sink_34 : decode gb_Model_sink 34 = .ok (.aload_n 0, 1) := by decide +kernel
theorem gd_Model_sink_35 : decode gb_Model_sink 35 = .ok (.iload 5, 2) := by decide +kernel
theorem gd_Model_sink_37 : decode gb_Model_sink 37 = .ok (.iconst 1, 1) := by decide +kernel
theorem gd_Model_sink_38 : decode gb_Model_sink 38 = .ok (.iadd, 1) := by decide +kernel
theorem gd_Model_sink_39 : decode gb_Model_sink 39 = .ok (.iload 5, 2) := by decide +kernel
theorem gd_Model_sink_41 : decode gb_Model_sink 41 = .ok (.invokevirtual 160, 3) := by decide +kernel
theorem gd_Model_sink_44 : decode gb_Model_sink 44 = .ok (.ifCond .eq 6, 3) := by decide +kernel
theorem gd_Model_sink_47 : decode gb_Model_sink 47 = .ok (.iinc 5 1, 3) := by decide +kernel
theorem gd_Model_sink_50 : decode gb_Model_sink 50 = .ok (.aload_n 0, 1) := by decide +kernel
theorem gd_Model_sink_51 : decode gb_Model_sink 51 = .ok (.iload 5, 2) := by decide +kernel
theorem gd_Model_sink_53 : decode gb_Model_sink 53 = .ok (.iload_n 3, 1) := by decide +kernel
theorem gd_Model_sink_54 : decode gb_Model_sink 54 = .ok (.invokevirtual 160, 3) := by decide +kernel
theorem gd_Model_sink_57 : decode gb_Model_sink 57 = .ok (.istore 4, 2) := by decide +kernel
theorem gd_Model_sink_59 : decode gb_Model_sink 59 = .ok (.iload 4, 2) := by decide +kernel
theorem gd_Model_sink_61 : decode gb_Model_sink 61 = .ok (.ifCond .eq 10, 3) := by decide +kernel
theorem gd_Model_sink_64 : decode gb_Model_sink 64 = .ok (.aload_n 0, 1) := by decide +kernel
theorem gd_Model_sink_65 : decode gb_Model_sink 65 = .ok (.iload 5, 2) := by decide +kernel
theorem gd_Model_sink_67 : decode gb_Model_sink 67 = .ok (.iload_n 3, 1) := by decide +kernel
theorem gd_Model_sink_68 : decode gb_Model_sink 68 = .ok (.invokevirtual 164, 3) := by decide +kernel
theorem gd_Model_sink_71 : decode gb_Model_sink 71 = .ok (.iload 5, 2) := by decide +kernel
theorem gd_Model_sink_73 : decode gb_Model_sink 73 = .ok (.istore_n 3, 1) := by decide +kernel
theorem gd_Model_sink_74 : decode gb_Model_sink 74 = .ok (.goto (-69), 3) := by decide +kernel
theorem gd_Model_sink_77 : decode gb_Model_sink 77 = .ok (.return_, 1) := by decide +kernel
def gf_Model_sink_b77 (F : Nat) (z : gw_Sh)  (u : gw_St)  : Option gw_St :=
  some u
def gf_Model_sink_b71 (F : Nat) (z : gw_Sh) (rc_5 : gw_St → Nat → Int32 → Int32 → Int32 → Option gw_St) (u : gw_St) (t0 : Nat) (x2 : Int32) (x4 : Int32) (x5 : Int32) : Option gw_St :=
  rc_5 u t0 x2 x5 x4
def gf_Model_sink_b50 (F : Nat) (z : gw_Sh) (rc_5 : gw_St → Nat → Int32 → Int32 → Int32 → Option gw_St) (u : gw_St) (t0 : Nat) (x2 : Int32) (x3 : Int32) (x5 : Int32) : Option gw_St :=
  gf_cl (gf_Model_isLater F z u t0 x5 x3) fun a3 u1 => if a3 = 0 then (gf_Model_sink_b71 F z rc_5 u1 t0 x2 a3 x5) else ((gf_Model_swap F z u1 t0 x5 x3).bind fun u5 => gf_Model_sink_b71 F z rc_5 u5 t0 x2 a3 x5)
def gf_Model_sink_S5 (F : Nat) (z : gw_Sh)  (rc_5 : gw_St → Nat → Int32 → Int32 → Int32 → Option gw_St) (u : gw_St) (t0 : Nat) (x2 : Int32) (x3 : Int32) (x4 : Int32) : Option gw_St :=
  if x4 = 0 then (gf_Model_sink_b77 F z  u ) else (if x2 ≤ (((2 : Int32) * x3) + (1 : Int32)) then (gf_Model_sink_b77 F z  u ) else (gf_nm (((2 : Int32) * x3) + (1 : Int32)) fun a9 => if x2 ≤ (a9 + (1 : Int32)) then (gf_Model_sink_b50 F z rc_5 u t0 x2 x3 a9) else (gf_cl (gf_Model_isLater F z u t0 (a9 + (1 : Int32)) a9) fun a14 u12 => if a14 = 0 then (gf_Model_sink_b50 F z rc_5 u12 t0 x2 x3 a9) else (gf_nm (a9 + 1) fun a16 => gf_Model_sink_b50 F z rc_5 u12 t0 x2 x3 a16))))
def gf_Model_sink_L5 (F : Nat) (z : gw_Sh)  : Nat → gw_St → Nat → Int32 → Int32 → Int32 → Option gw_St
  | 0 => fun _ _ _ _ _ => none
  | n + 1 => fun u t0 x2 x3 x4 => gf_Model_sink_S5 F z  (gf_Model_sink_L5 F z  n) u t0 x2 x3 x4
def gf_Model_sink_b0 (F : Nat) (z : gw_Sh)  (u : gw_St) (t0 : Nat) (x1 : Int32) (x2 : Int32) : Option gw_St :=
  gf_Model_sink_L5 F z  F u t0 x2 x1 1
def gf_Model_sink (F : Nat) (z : gw_Sh) (u : gw_St) (t0 : Nat) (x1 : Int32) (x2 : Int32) : Option gw_St := gf_Model_sink_b0 F z  u t0 x1 x2
set_option maxHeartbeats 4000000 in
set_option maxRecDepth 20000 in
theorem gx_Model_sink_b77 {p : Program} {l : Launch} {e : Env} {s : State} {m : MethodId} {args : Array Value} {below : List Frame} {meth : Method} {c : Code} {D : va_G} {cA : Nat → ClassId} {hs : Nat → Nat} {z : gw_Sh} (F : Nat) {r0 : gw_St} (C : gw_Cx p s m args c gb_Model_sink 6 R_Model D cA) (hr : meth.sig.returnType = none) (hk : meth.locks = false) (u : gw_St)   {H : Heap} {locs : List Loc} {ls : Array Slot} (hW : gw_Wx D cA hs z s u H locs) (hl : lv_has ls 6 []) (h : gf_Model_sink_b77 F z   u  = some r0) : gw_Gv p l e gr_Model_sink s m args below meth c D cA hs z r0 H locs ls 77 [] := by
  obtain ⟨hx, hb, hml, hown, hts, hK⟩ := id C
  unfold gf_Model_sink_b77 at h
  obtain rfl := Option.some.inj h
  exact gw_vret C hW hr hk gd_Model_sink_77

set_option maxHeartbeats 4000000 in
set_option maxRecDepth 20000 in
theorem gx_Model_sink_b71 {p : Program} {l : Launch} {e : Env} {s : State} {m : MethodId} {args : Array Value} {below : List Frame} {meth : Method} {c : Code} {D : va_G} {cA : Nat → ClassId} {hs : Nat → Nat} {z : gw_Sh} (F : Nat) {r0 : gw_St} (C : gw_Cx p s m args c gb_Model_sink 6 R_Model D cA) (hr : meth.sig.returnType = none) (hk : meth.locks = false) {rc_5 : gw_St → Nat → Int32 → Int32 → Int32 → Option gw_St} (k_5 : ∀ (u : gw_St) (t0 : Nat) (x2 : Int32) (x3 : Int32) (x4 : Int32) (H : Heap) (locs : List Loc) (ls : Array Slot), gw_ok z t0 9 → gw_Wx D cA hs z s u H locs → lv_has ls 6 [(0, .ref (hs t0)), (2, .int x2), (3, .int x3), (4, .int x4)] → rc_5 u t0 x2 x3 x4 = some r0 → gw_Gv p l e gr_Model_sink s m args below meth c D cA hs z r0 H locs ls 5 []) (u : gw_St) (t0 : Nat) (x2 : Int32) (x4 : Int32) (x5 : Int32) (o_t0 : gw_ok z t0 9) {H : Heap} {locs : List Loc} {ls : Array Slot} (hW : gw_Wx D cA hs z s u H locs) (hl : lv_has ls 6 [(0, .ref (hs t0)), (2, .int x2), (4, .int x4), (5, .int x5)]) (h : gf_Model_sink_b71 F z rc_5  u t0 x2 x4 x5 = some r0) : gw_Gv p l e gr_Model_sink s m args below meth c D cA hs z r0 H locs ls 71 [] := by
  obtain ⟨hx, hb, hml, hown, hts, hK⟩ := id C
  unfold gf_Model_sink_b71 at h
  refine lv_iload hx hb gd_Model_sink_71 (lv_at hl 3 rfl) ?_
  refine lv_istore_n (lv' := [(3, .int x5), (0, .ref (hs t0)), (2, .int x2), (4, .int x4), (5, .int x5)]) hx hb gd_Model_sink_73 rfl hl (by decide) rfl (fun ls hl => ?_)
  refine lv_goto (tgt := 5) hx hb gd_Model_sink_74 (by decide) ?_
  exact k_5 u t0 x2 x5 x4 _ _ _ o_t0 hW (lv_sub hl [1, 2, 0, 3] rfl) h

set_option maxHeartbeats 4000000 in
set_option maxRecDepth 20000 in
theorem gx_Model_sink_b50 {p : Program} {l : Launch} {e : Env} {s : State} {m : MethodId} {args : Array Value} {below : List Frame} {meth : Method} {c : Code} {D : va_G} {cA : Nat → ClassId} {hs : Nat → Nat} {z : gw_Sh} (F : Nat) {r0 : gw_St} (C : gw_Cx p s m args c gb_Model_sink 6 R_Model D cA) (hr : meth.sig.returnType = none) (hk : meth.locks = false) {rc_5 : gw_St → Nat → Int32 → Int32 → Int32 → Option gw_St} (k_5 : ∀ (u : gw_St) (t0 : Nat) (x2 : Int32) (x3 : Int32) (x4 : Int32) (H : Heap) (locs : List Loc) (ls : Array Slot), gw_ok z t0 9 → gw_Wx D cA hs z s u H locs → lv_has ls 6 [(0, .ref (hs t0)), (2, .int x2), (3, .int x3), (4, .int x4)] → rc_5 u t0 x2 x3 x4 = some r0 → gw_Gv p l e gr_Model_sink s m args below meth c D cA hs z r0 H locs ls 5 []) (u : gw_St) (t0 : Nat) (x2 : Int32) (x3 : Int32) (x5 : Int32) (o_t0 : gw_ok z t0 9) {H : Heap} {locs : List Loc} {ls : Array Slot} (hW : gw_Wx D cA hs z s u H locs) (hl : lv_has ls 6 [(0, .ref (hs t0)), (2, .int x2), (3, .int x3), (5, .int x5)]) (h : gf_Model_sink_b50 F z rc_5  u t0 x2 x3 x5 = some r0) : gw_Gv p l e gr_Model_sink s m args below meth c D cA hs z r0 H locs ls 50 [] := by
  obtain ⟨hx, hb, hml, hown, hts, hK⟩ := id C
  unfold gf_Model_sink_b50 at h
  refine lv_aload_n hx hb gd_Model_sink_50 rfl (lv_at hl 0 rfl) ?_
  refine lv_iload hx hb gd_Model_sink_51 (lv_at hl 3 rfl) ?_
  refine lv_iload_n hx hb gd_Model_sink_53 rfl (lv_at hl 2 rfl) ?_
  obtain ⟨a3, u1, d2, h⟩ := gf_cl_ok h
  refine gw_callVi (K := R_Model) (As := [.int x5, .int x3]) (rest := []) C hW (fun _ h => Or.inr h) hl.1 gm_Model_isLater (gc_Model_isLater l F o_t0 d2 _) gk_413 gk_414 gk_415 o_t0 (by decide) rfl rfl rfl ⟨Nat.le_of_ble_eq_true rfl, Nat.le_of_ble_eq_true rfl⟩ ⟨Nat.zero_le _, Nat.zero_le _⟩ rfl rfl (Nat.le_of_ble_eq_true rfl) gd_Model_sink_54 (fun H locs hW => ?_)
  refine lv_istore (lv' := [(4, .int a3), (0, .ref (hs t0)), (2, .int x2), (3, .int x3), (5, .int x5)]) hx hb gd_Model_sink_57 hl (by decide) rfl (fun ls hl => ?_)
  refine lv_iload hx hb gd_Model_sink_59 (lv_at hl 0 rfl) ?_
  refine lv_if_eq (tgt := 71) hx hb gd_Model_sink_61 (by decide) (fun c4 => ?_) (fun c4 => ?_)
  · have h := gf_t c4 h
    exact gx_Model_sink_b71 F C hr hk k_5 u1 t0 x2 a3 x5 o_t0 hW (lv_sub hl [1, 2, 0, 4] rfl) h
  · have h := gf_f c4 h
    refine lv_aload_n hx hb gd_Model_sink_64 rfl (lv_at hl 1 rfl) ?_
    refine lv_iload hx hb gd_Model_sink_65 (lv_at hl 4 rfl) ?_
    refine lv_iload_n hx hb gd_Model_sink_67 rfl (lv_at hl 3 rfl) ?_
    obtain ⟨u5, d6, h⟩ := gf_bd_ok h
    refine gw_callVv (K := R_Model) (As := [.int x5, .int x3]) (rest := []) C hW (fun _ h => Or.inr h) hl.1 gm_Model_swap (gc_Model_swap l F o_t0 d6 _) gk_416 gk_417 gk_418 o_t0 (by decide) rfl rfl rfl ⟨Nat.le_of_ble_eq_true rfl, Nat.le_of_ble_eq_true rfl⟩ ⟨Nat.zero_le _, Nat.zero_le _⟩ rfl rfl (Nat.le_of_ble_eq_true rfl) gd_Model_sink_68 (fun H locs hW => ?_)
    exact gx_Model_sink_b71 F C hr hk k_5 u5 t0 x2 a3 x5 o_t0 hW (lv_sub hl [1, 2, 0, 4] rfl) h

set_option maxHeartbeats 4000000 in
set_option maxRecDepth 20000 in
theorem gx_Model_sink_S5 {p : Program} {l : Launch} {e : Env} {s : State} {m : MethodId} {args : Array Value} {below : List Frame} {meth : Method} {c : Code} {D : va_G} {cA : Nat → ClassId} {hs : Nat → Nat} {z : gw_Sh} (F : Nat) {r0 : gw_St} (C : gw_Cx p s m args c gb_Model_sink 6 R_Model D cA) (hr : meth.sig.returnType = none) (hk : meth.locks = false) {rc_5 : gw_St → Nat → Int32 → Int32 → Int32 → Option gw_St} (k_5 : ∀ (u : gw_St) (t0 : Nat) (x2 : Int32) (x3 : Int32) (x4 : Int32) (H : Heap) (locs : List Loc) (ls : Array Slot), gw_ok z t0 9 → gw_Wx D cA hs z s u H locs → lv_has ls 6 [(0, .ref (hs t0)), (2, .int x2), (3, .int x3), (4, .int x4)] → rc_5 u t0 x2 x3 x4 = some r0 → gw_Gv p l e gr_Model_sink s m args below meth c D cA hs z r0 H locs ls 5 []) (u : gw_St) (t0 : Nat) (x2 : Int32) (x3 : Int32) (x4 : Int32) (o_t0 : gw_ok z t0 9) {H : Heap} {locs : List Loc} {ls : Array Slot} (hW : gw_Wx D cA hs z s u H locs) (hl : lv_has ls 6 [(0, .ref (hs t0)), (2, .int x2), (3, .int x3), (4, .int x4)]) (h : gf_Model_sink_S5 F z  rc_5 u t0 x2 x3 x4 = some r0) : gw_Gv p l e gr_Model_sink s m args below meth c D cA hs z r0 H locs ls 5 [] := by
  obtain ⟨hx, hb, hml, hown, hts, hK⟩ := id C
  unfold gf_Model_sink_S5 at h
  refine lv_iload hx hb gd_Model_sink_5 (lv_at hl 3 rfl) ?_
  refine lv_if_eq (tgt := 77) hx hb gd_Model_sink_7 (by decide) (fun c7 => ?_) (fun c7 => ?_)
  · have h := gf_t c7 h
    exact gx_Model_sink_b77 F C hr hk  u   hW (lv_sub hl [] rfl) h
  · have h := gf_f c7 h
    refine lv_iconst (v := 2) hx hb gd_Model_sink_10 (by decide) ?_
    refine lv_iload_n hx hb gd_Model_sink_11 rfl (lv_at hl 2 rfl) ?_
    refine lv_imul hx hb gd_Model_sink_12 ?_
    refine lv_iconst (v := 1) hx hb gd_Model_sink_13 (by decide) ?_
    refine lv_iadd hx hb gd_Model_sink_14 ?_
    refine lv_iload_n hx hb gd_Model_sink_15 rfl (lv_at hl 1 rfl) ?_
    refine lv_icmp_ge (tgt := 77) hx hb gd_Model_sink_16 (by decide) (fun c8 => ?_) (fun c8 => ?_)
    · have h := gf_t c8 h
      exact gx_Model_sink_b77 F C hr hk  u   hW (lv_sub hl [] rfl) h
    · have h := gf_f c8 h
      refine lv_iconst (v := 2) hx hb gd_Model_sink_19 (by decide) ?_
      refine lv_iload_n hx hb gd_Model_sink_20 rfl (lv_at hl 2 rfl) ?_
      refine lv_imul hx hb gd_Model_sink_21 ?_
      refine lv_iconst (v := 1) hx hb gd_Model_sink_22 (by decide) ?_
      refine lv_iadd hx hb gd_Model_sink_23 ?_
      refine lv_topi (fun a9 e10 => ?_)
      have h := gf_nm_ok e10 h
      refine lv_istore (lv' := [(5, .int a9), (0, .ref (hs t0)), (2, .int x2), (3, .int x3), (4, .int x4)]) hx hb gd_Model_sink_24 hl (by decide) rfl (fun ls hl => ?_)
      refine lv_iload hx hb gd_Model_sink_26 (lv_at hl 0 rfl) ?_
      refine lv_iconst (v := 1) hx hb gd_Model_sink_28 (by decide) ?_
      refine lv_iadd hx hb gd_Model_sink_29 ?_
      refine lv_iload_n hx hb gd_Model_sink_30 rfl (lv_at hl 2 rfl) ?_
      refine lv_icmp_ge (tgt := 50) hx hb gd_Model_sink_31 (by decide) (fun c11 => ?_) (fun c11 => ?_)
      · have h := gf_t c11 h
        exact gx_Model_sink_b50 F C hr hk k_5 u t0 x2 x3 a9 o_t0 hW (lv_sub hl [1, 2, 3, 0] rfl) h
      · have h := gf_f c11 h
        refine lv_aload_n hx hb gd_Model_sink_34 rfl (lv_at hl 1 rfl) ?_
        refine lv_iload hx hb gd_Model_sink_35 (lv_at hl 0 rfl) ?_
        refine lv_iconst (v := 1) hx hb gd_Model_sink_37 (by decide) ?_
        refine lv_iadd hx hb gd_Model_sink_38 ?_
        refine lv_iload hx hb gd_Model_sink_39 (lv_at hl 0 rfl) ?_
        obtain ⟨a14, u12, d13, h⟩ := gf_cl_ok h
        refine gw_callVi (K := R_Model) (As := [.int (a9 + (1 : Int32)), .int a9]) (rest := []) C hW (fun _ h => Or.inr h) hl.1 gm_Model_isLater (gc_Model_isLater l F o_t0 d13 _) gk_413 gk_414 gk_415 o_t0 (by decide) rfl rfl rfl ⟨Nat.le_of_ble_eq_true rfl, Nat.le_of_ble_eq_true rfl⟩ ⟨Nat.zero_le _, Nat.zero_le _⟩ rfl rfl (Nat.le_of_ble_eq_true rfl) gd_Model_sink_41 (fun H locs hW => ?_)
        refine lv_if_eq (tgt := 50) hx hb gd_Model_sink_44 (by decide) (fun c15 => ?_) (fun c15 => ?_)
        · have h := gf_t c15 h
          exact gx_Model_sink_b50 F C hr hk k_5 u12 t0 x2 x3 a9 o_t0 hW (lv_sub hl [1, 2, 3, 0] rfl) h
        · have h := gf_f c15 h
          obtain ⟨a16, e17⟩ : ∃ y : Int32, y = a9 + 1 := ⟨_, rfl⟩
          have h := gf_nm_ok e17 h
          refine lv_iinc (v := a16) (lv' := [(5, .int a16), (0, .ref (hs t0)), (2, .int x2), (3, .int x3), (4, .int x4)]) hx hb gd_Model_sink_47 hl (k := 0) rfl (by rw [e17]; rfl) (by decide) rfl (fun ls hl => ?_)
          exact gx_Model_sink_b50 F C hr hk k_5 u12 t0 x2 x3 a16 o_t0 hW (lv_sub hl [1, 2, 3, 0] rfl) h
set_option maxHeartbeats 4000000 in
set_option maxRecDepth 20000 in
theorem gx_Model_sink_L5 {p : Program} {l : Launch} {e : Env} {s : State} {m : MethodId} {args : Array Value} {below : List Frame} {meth : Method} {c : Code} {D : va_G} {cA : Nat → ClassId} {hs : Nat → Nat} {z : gw_Sh} (F : Nat) {r0 : gw_St} (C : gw_Cx p s m args c gb_Model_sink 6 R_Model D cA) (hr : meth.sig.returnType = none) (hk : meth.locks = false) : ∀ (n : Nat), ∀ (u : gw_St) (t0 : Nat) (x2 : Int32) (x3 : Int32) (x4 : Int32) (H : Heap) (locs : List Loc) (ls : Array Slot), gw_ok z t0 9 → gw_Wx D cA hs z s u H locs → lv_has ls 6 [(0, .ref (hs t0)), (2, .int x2), (3, .int x3), (4, .int x4)] → gf_Model_sink_L5 F z  n u t0 x2 x3 x4 = some r0 → gw_Gv p l e gr_Model_sink s m args below meth c D cA hs z r0 H locs ls 5 [] := by
  intro n
  induction n with
  | zero =>
    intro u t0 x2 x3 x4 H locs ls o_t0 hW hl h
    cases h
  | succ n ih =>
    intro u t0 x2 x3 x4 H locs ls o_t0 hW hl h
    exact gx_Model_sink_S5 F C hr hk  ih u t0 x2 x3 x4 o_t0 hW hl h

set_option maxHeartbeats 4000000 in
set_option maxRecDepth 20000 in
theorem gx_Model_sink_b0 {p : Program} {l : Launch} {e : Env} {s : State} {m : MethodId} {args : Array Value} {below : List Frame} {meth : Method} {c : Code} {D : va_G} {cA : Nat → ClassId} {hs : Nat → Nat} {z : gw_Sh} (F : Nat) {r0 : gw_St} (C : gw_Cx p s m args c gb_Model_sink 6 R_Model D cA) (hr : meth.sig.returnType = none) (hk : meth.locks = false) (u : gw_St) (t0 : Nat) (x1 : Int32) (x2 : Int32) (o_t0 : gw_ok z t0 9) {H : Heap} {locs : List Loc} {ls : Array Slot} (hW : gw_Wx D cA hs z s u H locs) (hl : lv_has ls 6 [(0, .ref (hs t0)), (1, .int x1), (2, .int x2)]) (h : gf_Model_sink_b0 F z   u t0 x1 x2 = some r0) : gw_Gv p l e gr_Model_sink s m args below meth c D cA hs z r0 H locs ls 0 [] := by
  obtain ⟨hx, hb, hml, hown, hts, hK⟩ := id C
  unfold gf_Model_sink_b0 at h
  refine lv_iload_n hx hb gd_Model_sink_0 rfl (lv_at hl 1 rfl) ?_
  refine lv_istore_n (lv' := [(3, .int x1), (0, .ref (hs t0)), (1, .int x1), (2, .int x2)]) hx hb gd_Model_sink_1 rfl hl (by decide) rfl (fun ls hl => ?_)
  refine lv_iconst (v := 1) hx hb gd_Model_sink_2 (by decide) ?_
  refine lv_istore (lv' := [(4, .int 1), (3, .int x1), (0, .ref (hs t0)), (1, .int x1), (2, .int x2)]) hx hb gd_Model_sink_3 hl (by decide) rfl (fun ls hl => ?_)
  exact gx_Model_sink_L5 F C hr hk  F u t0 x2 x1 1 _ _ _ o_t0 hW (lv_sub hl [2, 4, 1, 0] rfl) h

set_option maxRecDepth 20000 in
theorem gc_Model_sink (l : Launch) {D : va_G} {cA : Nat → ClassId} {hs : Nat → Nat} {z : gw_Sh} (F : Nat) {u : gw_St} {r0 : gw_St} {t0 : Nat} {x1 : Int32} {x2 : Int32} (o_t0 : gw_ok z t0 9) (h : gf_Model_sink F z u t0 x1 x2 = some r0) (sz : Nat) : gw_Mv l gy_Model_sink gb_Model_sink 6 none gr_Model_sink [.ref (hs t0), .int x1, .int x2] D cA hs z u sz r0 := by
  refine gw_enter (by decide) (Nat.le_of_ble_eq_true rfl) ?_
  intro p e s m below meth c ls hsz C hW hr hk _ hl
  subst hsz
  exact gx_Model_sink_b0 F C hr hk u t0 x1 x2 o_t0 hW (lv_sub hl [0, 1, 2] rfl) h
-- GearDeskModel.listChoices()V
theorem gk_420 : Cond.fieldLink R_Model 168 R_Model "choices" "I" ∈ gt_T := gt_m6 (List.mem_of_getElem? (i := 61) rfl) rfl
theorem gk_421 : Cond.methodLink R_Model 171 gy_Model_sumOf ∈ gt_T := gt_m6 (List.mem_of_getElem? (i := 239) rfl) rfl
theorem gk_422 : Cond.instanceMethod gy_Model_sumOf ∈ gt_T := gt_m7 (List.mem_of_getElem? (i := 1) rfl) rfl
theorem gk_423 : Cond.selects R_Model gy_Model_sumOf gy_Model_sumOf ∈ gt_T := gt_p3 (List.mem_of_getElem? (i := 4) rfl) rfl
theorem gk_424 : Cond.methodLink R_Model 174 gy_Model_sink ∈ gt_T := gt_m7 (List.mem_of_getElem? (i := 7) rfl) rfl
theorem gk_425 : Cond.instanceMethod gy_Model_sink ∈ gt_T := gt_m7 (List.mem_of_getElem? (i := 9) rfl) rfl
theorem gk_426 : Cond.selects R_Model gy_Model_sink gy_Model_sink ∈ gt_T := gt_p3 (List.mem_of_getElem? (i := 6) rfl) rfl
def gy_Model_listChoices : MethodName := ⟨R_Model, "listChoices", "()V"⟩
abbrev gb_Model_listChoices : ByteArray := prog_11_method_14_code
theorem gk_427 : Cond.code gy_Model_listChoices gb_Model_listChoices 10 none ∈ gt_T := gt_m6 (List.mem_of_getElem? (i := 238) rfl) rfl
def gr_Model_listChoices : Room := gw_rm 3 112
theorem gm_Model_listChoices : gw_Mth gy_Model_listChoices gb_Model_listChoices 10 none 0 := ⟨gk_427, gk_377, ⟨by decide +kernel, by decide +kernel⟩, by decide +kernel⟩
theorem gd_Model_listChoices_0 : decode gb_Model_listChoices 0 = .ok (.aload_n 0, 1) := by decide +kernel
theorem gd_Model_listChoices_1 : decode gb_Model_listChoices 1 = .ok (.iconst 0, 1) := by decide +kernel
theorem gd_Model_listChoices_2 : decode gb_Model_listChoices 2 = .ok (.putfield 168, 3) := by decide +kernel
theorem gd_Model_listChoices_5 : decode gb_Model_listChoices 5 = .ok (.iconst 1, 1) := by decide +kernel
theorem gd_Model_listChoices_6 : decode gb_Model_listChoices 6 = .ok (.istore_n 1, 1) := by decide +kernel
theorem gd_Model_listChoices_7 : decode gb_Model_listChoices 7 = .ok (.iconst 0, 1) := by decide +kernel
theorem gd_Model_listChoices_8 : decode gb_Model_listChoices 8 = .ok (.istore_n 2, 1) := by decide +kernel
theorem gd_Model_listChoices_9 : decode gb_Model_listChoices 9 = .ok (.iload_n 2, 1) := by decide +kernel
theorem gd_Model_listChoices_10 : decode gb_Model_listChoices 10 = .ok (.aload_n 0, 1) := by decide +kernel
theorem gd_Model_listChoices_11 : decode gb_Model_listChoices 11 = .ok (.getfield 137, 3) := by decide +kernel
theorem gd_Model_listChoices_14 : decode gb_Model_listChoices 14 = .ok (.if_icmp .ge 16, 3) := by decide +kernel
theorem gd_Model_listChoices_17 : decode gb_Model_listChoices 17 = .ok (.iload_n 1, 1) := by decide +kernel
theorem gd_Model_listChoices_18 : decode gb_Model_listChoices 18 = .ok (.aload_n 0, 1) := by decide +kernel
theorem gd_Model_listChoices_19 : decode gb_Model_listChoices 19 = .ok (.getfield 143, 3) := by decide +kernel
theorem gd_Model_listChoices_22 : decode gb_Model_listChoices 22 = .ok (.imul, 1) := by decide +kernel
theorem gd_Model_listChoices_23 : decode gb_Model_listChoices 23 = .ok (.istore_n 1, 1) := by decide +kernel
theorem gd_Model_listChoices_24 : decode gb_Model_listChoices 24 = .ok (.iinc 2 1, 3) := by decide +kernel
theorem gd_Model_listChoices_27 : decode gb_Model_listChoices 27 = .ok (.goto (-18), 3) := by decide +kernel
theorem gd_Model_listChoices_30 : decode gb_Model_listChoices 30 = .ok (.iconst 0, 1) := by decide +kernel
theorem gd_Model_listChoices_31 : decode gb_Model_listChoices 31 = .ok (.istore_n 2, 1) := by decide +kernel
theorem gd_Model_listChoices_32 : decode gb_Model_listChoices 32 = .ok (.iload_n 2, 1) := by decide +kernel
theorem gd_Model_listChoices_33 : decode gb_Model_listChoices 33 = .ok (.iload_n 1, 1) := by decide +kernel
theorem gd_Model_listChoices_34 : decode gb_Model_listChoices 34 = .ok (.if_icmp .ge 163, 3) := by decide +kernel
theorem gd_Model_listChoices_37 : decode gb_Model_listChoices 37 = .ok (.iconst 0, 1) := by decide +kernel
theorem gd_Model_listChoices_38 : decode gb_Model_listChoices 38 = .ok (.istore_n 3, 1) := by decide +kernel
theorem gd_Model_listChoices_39 : decode gb_Model_listChoices 39 = .ok (.iconst 1, 1) := by decide +kernel
theorem gd_Model_listChoices_40 : decode gb_Model_listChoices 40 = .ok (.istore 4, 2) := by decide +kernel
theorem gd_Model_listChoices_42 : decode gb_Model_listChoices 42 = .ok (.iload_n 2, 1) := by decide +kernel
theorem gd_Model_listChoices_43 : decode gb_Model_listChoices 43 = .ok (.istore 5, 2) := by decide +kernel
theorem gd_Model_listChoices_45 : decode gb_Model_listChoices 45 = .ok (.aload_n 0, 1) := by decide +kernel
theorem gd_Model_listChoices_46 : decode gb_Model_listChoices 46 = .ok (.getfield 143, 3) := by decide +kernel
theorem gd_Model_listChoices_49 : decode gb_Model_listChoices 49 = .ok (.istore 6, 2) := by decide +kernel
theorem gd_Model_listChoices_51 : decode gb_Model_listChoices 51 = .ok (.iconst 1, 1) := by decide +kernel
theorem gd_Model_listChoices_52 : decode gb_Model_listChoices 52 = .ok (.istore 7, 2) := by decide +kernel
theorem gd_Model_listChoices_54 : decode gb_Model_listChoices 54 = .ok (.iconst 0, 1) := by decide +kernel
theorem gd_Model_listChoices_55 : decode gb_Model_listChoices 55 = .ok (.istore 8, 2) := by decide +kernel
theorem gd_Model_listChoices_57 : decode gb_Model_listChoices 57 = .ok (.iload 8, 2) := by decide +kernel
theorem gd_Model_listChoices_59 : decode gb_Model_listChoices 59 = .ok (.aload_n 0, 1) := by decide +kernel
theorem gd_Model_listChoices_60 : decode gb_Model_listChoices 60 = .ok (.getfield 137, 3) := by decide +kernel
theorem gd_Model_listChoices_63 : decode gb_Model_listChoices 63 = .ok (.if_icmp .ge 78, 3) := by decide +kernel
theorem gd_Model_listChoices_66 : decode gb_Model_listChoices 66 = .ok (.iload 7, 2) := by decide +kernel
theorem gd_Model_listChoices_68 : decode gb_Model_listChoices 68 = .ok (.ifCond .eq 73, 3) := by decide +kernel
theorem gd_Model_listChoices_71 : decode gb_Model_listChoices 71 = .ok (.iload 5, 2) := by decide +kernel
theorem gd_Model_listChoices_73 : decode gb_Model_listChoices 73 = .ok (.aload_n 0, 1) := by decide +kernel
theorem gd_Model_listChoices_74 : decode gb_Model_listChoices 74 = .ok (.getfield 143, 3) := by decide +kernel
theorem gd_Model_listChoices_77 : decode gb_Model_listChoices 77 = .ok (.irem, 1) := by decide +kernel
theorem gd_Model_listChoices_78 : decode gb_Model_listChoices 78 = .ok (.istore 9, 2) := by decide +kernel
theorem gd_Model_listChoices_80 : decode gb_Model_listChoices 80 = .ok (.iload 9, 2) := by decide +kernel
theorem gd_Model_listChoices_82 : decode gb_Model_listChoices 82 = .ok (.iload 6, 2) := by decide +kernel
theorem gd_Model_listChoices_84 : decode gb_Model_listChoices 84 = .ok (.if_icmp .gt 7, 3) := by decide +kernel
theorem gd_Model_listChoices_87 : decode gb_Model_listChoices 87 = .ok (.iconst 1, 1) := by decide +kernel
theorem gd_Model_listChoices_88 : decode gb_Model_listChoices 88 = .ok (.goto 4, 3) := by decide +kernel
theorem gd_Model_listChoices_91 : decode gb_Model_listChoices 91 = .ok (.iconst 0, 1) := by decide +kernel
theorem gd_Model_listChoices_92 : decode gb_Model_listChoices 92 = .ok (.istore 7, 2) := by decide +kernel
theorem gd_Model_listChoices_94 : decode gb_Model_listChoices 94 = .ok (.iload 9, 2) := by decide +kernel
theorem gd_Model_listChoices_96 : decode gb_Model_listChoices 96 = .ok (.istore 6, 2) := by decide +kernel
theorem gd_Model_listChoices_98 : decode gb_Model_listChoices 98 = .ok (.iload 5, 2) := by decide +kernel
theorem gd_Model_listChoices_100 : decode gb_Model_listChoices 100 = .ok (.aload_n 0, 1) := by decide +kernel
theorem gd_Model_listChoices_101 : decode gb_Model_listChoices 101 = .ok (.getfield 143, 3) := by decide +kernel
theorem gd_Model_listChoices_104 : decode gb_Model_listChoices 104 = .ok (.idiv, 1) := by decide +kernel
theorem gd_Model_listChoices_105 : decode gb_Model_listChoices 105 = .ok (.istore 5, 2) := by decide +kernel
theorem gd_Model_listChoices_107 : decode gb_Model_listChoices 107 = .ok (.iload_n 3, 1) := by decide +kernel
theorem gd_Model_listChoices_108 : decode gb_Model_listChoices 108 = .ok (.aload_n 0, 1) := by decide +kernel
theorem gd_Model_listChoices_109 : decode gb_Model_listChoices 109 = .ok (.getfield 140, 3) := by decide +kernel
theorem gd_Model_listChoices_112 : decode gb_Model_listChoices 112 = .ok (.iload 9, 2) := by decide +kernel
theorem gd_Model_listChoices_114 : decode gb_Model_listChoices 114 = .ok (.iadd, 1) := by decide +kernel
theorem gd_Model_listChoices_115 : decode gb_Model_listChoices 115 = .ok (.bipush 7, 2) := by decide +kernel
theorem gd_Model_listChoices_117 : decode gb_Model_listChoices 117 = .ok (.iload 8, 2) := by decide +kernel
theorem gd_Model_listChoices_119 : decode gb_Model_listChoices 119 = .ok (.imul, 1) := by decide +kernel
theorem gd_Model_listChoices_120 : decode gb_Model_listChoices 120 = .ok (.ishl, 1) := by decide +kernel
theorem gd_Model_listChoices_121 : decode gb_Model_listChoices 121 = .ok (.iadd, 1) := by decide +kernel
theorem gd_Model_listChoices_122 : decode gb_Model_listChoices 122 = .ok (.istore_n 3, 1) := by decide +kernel
theorem gd_Model_listChoices_123 : decode gb_Model_listChoices 123 = .ok (.iload 4, 2) := by decide +kernel
theorem gd_Model_listChoices_125 : decode gb_Model_listChoices 125 = .ok (.aload_n 0, 1) := by decide +kernel
theorem gd_Model_listChoices_126 : decode gb_Model_listChoices 126 = .ok (.getfield 140, 3) := by decide +kernel
theorem gd_Model_listChoices_129 : decode gb_Model_listChoices 129 = .ok (.iload 9, 2) := by decide +kernel
theorem gd_Model_listChoices_131 : decode gb_Model_listChoices 131 = .ok (.iadd, 1) := by decide +kernel
theorem gd_Model_listChoices_132 : decode gb_Model_listChoices 132 = .ok (.imul, 1) := by decide +kernel
theorem gd_Model_listChoices_133 : decode gb_Model_listChoices 133 = .ok (.istore 4, 2) := by decide +kernel
theorem gd_Model_listChoices_135 : decode gb_Model_listChoices 135 = .ok (.iinc 8 1, 3) := by decide +kernel
theorem gd_Model_listChoices_138 : decode gb_Model_listChoices 138 = .ok (.goto (-81), 3) := by decide +kernel
theorem gd_Model_listChoices_141 : decode gb_Model_listChoices 141 = .ok (.iload 7, 2) := by decide +kernel
theorem gd_Model_listChoices_143 : decode gb_Model_listChoices 143 = .ok (.ifCond .eq 48, 3) := by decide +kernel
theorem gd_Model_listChoices_146 : decode gb_Model_listChoices 146 = .ok (.aload_n 0, 1) := by decide +kernel
theorem gd_Model_listChoices_147 : decode gb_Model_listChoices 147 = .ok (.getfield 8, 3) := by decide +kernel
theorem gd_Model_listChoices_150 : decode gb_Model_listChoices 150 = .ok (.aload_n 0, 1) := by decide +kernel
theorem gd_Model_listChoices_151 : decode gb_Model_listChoices 151 = .ok (.getfield 168, 3) := by decide +kernel
theorem gd_Model_listChoices_154 : decode gb_Model_listChoices 154 = .ok (.iload 4, 2) := by decide +kernel
theorem gd_Model_listChoices_156 : decode gb_Model_listChoices 156 = .ok (.iastore, 1) := by decide +kernel
theorem gd_Model_listChoices_157 : decode gb_Model_listChoices 157 = .ok (.aload_n 0, 1) := by decide +kernel
theorem gd_Model_listChoices_158 : decode gb_Model_listChoices 158 = .ok (.getfield 14, 3) := by decide +kernel
theorem gd_Model_listChoices_161 : decode gb_Model_listChoices 161 = .ok (.aload_n 0, 1) := by decide +kernel
theorem gd_Model_listChoices_162 : decode gb_Model_listChoices 162 = .ok (.getfield 168, 3) := by decide +kernel
theorem gd_Model_listChoices_165 : decode gb_Model_listChoices 165 = .ok (.iload_n 3, 1) := by decide +kernel
theorem gd_Model_listChoices_166 : decode gb_Model_listChoices 166 = .ok (.iastore, 1) := by decide +kernel
theorem gd_Model_listChoices_167 : decode gb_Model_listChoices 167 = .ok (.aload_n 0, 1) := by decide +kernel
theorem gd_Model_listChoices_168 : decode gb_Model_listChoices 168 = .ok (.getfield 17, 3) := by decide +kernel
theorem gd_Model_listChoices_171 : decode gb_Model_listChoices 171 = .ok (.aload_n 0, 1) := by decide +kernel
theorem gd_Model_listChoices_172 : decode gb_Model_listChoices 172 = .ok (.getfield 168, 3) := by decide +kernel
theorem gd_Model_listChoices_175 : decode gb_Model_listChoices 175 = .ok (.aload_n 0, 1) := by decide +kernel
theorem gd_Model_listChoices_176 : decode gb_Model_listChoices 176 = .ok (.iload_n 3, 1) := by decide +kernel
theorem gd_Model_listChoices_177 : decode gb_Model_listChoices 177 = .ok (.invokevirtual 171, 3) := by decide +kernel
theorem gd_Model_listChoices_180 : decode gb_Model_listChoices 180 = .ok (.iastore, 1) := by decide +kernel
theorem gd_Model_listChoices_181 : decode gb_Model_listChoices 181 = .ok (.aload_n 0, 1) := by decide +kernel
theorem gd_Model_listChoices_182 : decode gb_Model_listChoices 182 = .ok (.dup, 1) := by decide +kernel
theorem gd_Model_listChoices_183 : decode gb_Model_listChoices 183 = .ok (.getfield 168, 3) := by decide +kernel
theorem gd_Model_listChoices_186 : decode gb_Model_listChoices 186 = .ok (.iconst 1, 1) := by decide +kernel
theorem gd_Model_listChoices_187 : decode gb_Model_listChoices 187 = .ok (.iadd, 1) := by decide +kernel
theorem gd_Model_listChoices_188 : decode gb_Model_listChoices 188 = .ok (.putfield 168, 3) := by decide +kernel
theorem gd_Model_listChoices_191 : decode gb_Model_listChoices 191 = .ok (.iinc 2 1, 3) := by decide +kernel
theorem gd_Model_listChoices_194 : decode gb_Model_listChoices 194 = .ok (.goto (-162), 3) := by decide +kernel
theorem gd_Model_listChoices_197 : decode gb_Model_listChoices 197 = .ok (.aload_n 0, 1) := by decide +kernel
theorem gd_Model_listChoices_198 : decode gb_Model_listChoices 198 = .ok (.getfield 168, 3) := by decide +kernel
theorem gd_Model_listChoices_201 : decode gb_Model_listChoices 201 = .ok (.iconst 2, 1) := by decide +kernel
theorem gd_Model_listChoices_202 : decode gb_Model_listChoices 202 = .ok (.idiv, 1) := by decide +kernel
theorem gd_Model_listChoices_203 : decode gb_Model_listChoices 203 = .ok (.iconst 1, 1) := by decide +kernel
theorem gd_Model_listChoices_204 : decode gb_Model_listChoices 204 = .ok (.isub, 1) := by decide +kernel
theorem gd_Model_listChoices_205 : decode gb_Model_listChoices 205 = .ok (.istore_n 2, 1) := by decide +kernel
theorem gd_Model_listChoices_206 : decode gb_Model_listChoices 206 = .ok (.iload_n 2, 1) := by decide +kernel
theorem gd_Model_listChoices_207 : decode gb_Model_listChoices 207 = .ok (.ifCond .lt 18, 3) := by decide +kernel
theorem gd_Model_listChoices_210 : decode gb_Model_listChoices 210 = .ok (.aload_n 0, 1) := by decide +kernel
theorem gd_Model_listChoices_211 : decode gb_Model_listChoices 211 = .ok (.iload_n 2, 1) := by decide +kernel
theorem gd_Model_listChoices_212 : decode gb_Model_listChoices 212 = .ok (.aload_n 0, 1) := by decide +kernel
theorem gd_Model_listChoices_213 : decode gb_Model_listChoices 213 = .ok (.getfield 168, 3) := by decide +kernel
theorem gd_Model_listChoices_216 : decode gb_Model_listChoices 216 = .ok (.invokevirtual 174, 3) := by decide +kernel
theorem gd_Model_listChoices_219 : decode gb_Model_listChoices 219 = .ok (.iinc 2 (-1), 3) := by decide +kernel
theorem gd_Model_listChoices_222 : decode gb_Model_listChoices 222 = .ok (.goto (-16), 3) := by decide +kernel
theorem gd_Model_listChoices_225 : decode gb_Model_listChoices 225 = .ok (.aload_n 0, 1) := by decide +kernel
theorem gd_Model_listChoices_226 : decode gb_Model_listChoices 226 = .ok (.getfield 168, 3) := by decide +kernel
theorem gd_Model_listChoices_229 : decode gb_Model_listChoices 229 = .ok (.iconst 1, 1) := by decide +kernel
theorem gd_Model_listChoices_230 : decode gb_Model_listChoices 230 = .ok (.isub, 1) := by decide +kernel
theorem gd_Model_listChoices_231 : decode gb_Model_listChoices 231 = .ok (.istore_n 2, 1) := by decide +kernel
theorem gd_Model_listChoices_232 : decode gb_Model_listChoices 232 = .ok (.iload_n 2, 1) := by decide +kernel
theorem gd_Model_listChoices_233 : decode gb_Model_listChoices 233 = .ok (.ifCond .le 21, 3) := by decide +kernel
theorem gd_Model_listChoices_236 : decode gb_Model_listChoices 236 = .ok (.aload_n 0, 1) := by decide +kernel
theorem gd_Model_listChoices_237 : decode gb_Model_listChoices 237 = .ok (.iconst 0, 1) := by decide +kernel
theorem gd_Model_listChoices_238 : decode gb_Model_listChoices 238 = .ok (.iload_n 2, 1) := by decide +kernel
theorem gd_Model_listChoices_239 : decode gb_Model_listChoices 239 = .ok (.invokevirtual 164, 3) := by decide +kernel
theorem gd_Model_listChoices_242 : decode gb_Model_listChoices 242 = .ok (.aload_n 0, 1) := by decide +kernel
theorem gd_Model_listChoices_243 : decode gb_Model_listChoices 243 = .ok (.iconst 0, 1) := by decide +kernel
theorem gd_Model_listChoices_244 : decode gb_Model_listChoices 244 = .ok (.iload_n 2, 1) := by decide +kernel
theorem gd_Model_listChoices_245 : decode gb_Model_listChoices 245 = .ok (.invokevirtual 174, 3) := by decide +kernel
theorem gd_Model_listChoices_248 : decode gb_Model_listChoices 248 = .ok (.iinc 2 (-1), 3) := by decide +kernel
theorem gd_Model_listChoices_251 : decode gb_Model_listChoices 251 = .ok (.goto (-19), 3) := by decide +kernel
theorem gd_Model_listChoices_254 : decode gb_Model_listChoices 254 = .ok (.iconst 0, 1) := by decide +kernel
theorem gd_Model_listChoices_255 : decode gb_Model_listChoices 255 = .ok (.istore_n 2, 1) := by decide +kernel
theorem gd_Model_listChoices_256 : decode gb_Model_listChoices 256 = .ok (.iconst 0, 1) := by decide +kernel
theorem gd_Model_listChoices_257 : decode gb_Model_listChoices 257 = .ok (.istore_n 3, 1) := by decide +kernel
theorem gd_Model_listChoices_258 : decode gb_Model_listChoices 258 = .ok (.iload_n 3, 1) := by decide +kernel
theorem gd_Model_listChoices_259 : decode gb_Model_listChoices 259 = .ok (.aload_n 0, 1) := by decide +kernel
theorem gd_Model_listChoices_260 : decode gb_Model_listChoices 260 = .ok (.getfield 168, 3) := by decide +kernel
theorem gd_Model_listChoices_263 : decode gb_Model_listChoices 263 = .ok (.if_icmp .ge 69, 3) := by decide +kernel
theorem gd_Model_listChoices_266 : decode gb_Model_listChoices 266 = .ok (.iload_n 2, 1) := by decide +kernel
theorem gd_Model_listChoices_267 : decode gb_Model_listChoices 267 = .ok (.ifCond .eq 20, 3) := by decide +kernel
theorem gd_Model_listChoices_270 : decode gb_Model_listChoices 270 = .ok (.aload_n 0, 1) := by decide +kernel
theorem gd_Model_listChoices_271 : decode gb_Model_listChoices 271 = .ok (.getfield 8, 3) := by decide +kernel
theorem gd_Model_listChoices_274 : decode gb_Model_listChoices 274 = .ok (.iload_n 2, 1) := by decide +kernel
theorem gd_Model_listChoices_275 : decode gb_Model_listChoices 275 = .ok (.iconst 1, 1) := by decide +kernel
theorem gd_Model_listChoices_276 : decode gb_Model_listChoices 276 = .ok (.isub, 1) := by decide +kernel
theorem gd_Model_listChoices_277 : decode gb_Model_listChoices 277 = .ok (.iaload, 1) := by decide +kernel
theorem gd_Model_listChoices_278 : decode gb_Model_listChoices 278 = .ok (.aload_n 0, 1) := by decide +kernel
theorem gd_Model_listChoices_279 : decode gb_Model_listChoices 279 = .ok (.getfield 8, 3) := by decide +kernel
theorem gd_Model_listChoices_282 : decode gb_Model_listChoices 282 = .ok (.iload_n 3, 1) := by decide +kernel
theorem gd_Model_listChoices_283 : decode gb_Model_listChoices 283 = .ok (.iaload, 1) := by decide +kernel
theorem gd_Model_listChoices_284 : decode gb_Model_listChoices 284 = .ok (.if_icmp .eq 42, 3) := by decide +kernel
theorem gd_Model_listChoices_287 : decode gb_Model_listChoices 287 = .ok (.aload_n 0, 1) := by decide +kernel
theorem gd_Model_listChoices_288 : decode gb_Model_listChoices 288 = .ok (.getfield 8, 3) := by decide +kernel
theorem gd_Model_listChoices_291 : decode gb_Model_listChoices 291 = .ok (.iload_n 2, 1) := by decide +kernel
theorem gd_Model_listChoices_292 : decode gb_Model_listChoices 292 = .ok (.aload_n 0, 1) := by decide +kernel
theorem gd_Model_listChoices_293 : decode gb_Model_listChoices 293 = .ok (.getfield 8, 3) := by decide +kernel
theorem gd_Model_listChoices_296 : decode gb_Model_listChoices 296 = .ok (.iload_n 3, 1) := by decide +kernel
theorem gd_Model_listChoices_297 : decode gb_Model_listChoices 297 = .ok (.iaload, 1) := by decide +kernel
theorem gd_Model_listChoices_298 : decode gb_Model_listChoices 298 = .ok (.iastore, 1) := by decide +kernel
theorem gd_Model_listChoices_299 : decode gb_Model_listChoices 299 = .ok (.aload_n 0, 1) := by decide +kernel
theorem gd_Model_listChoices_300 : decode gb_Model_listChoices 300 = .ok (.getfield 14, 3) := by decide +kernel
theorem gd_Model_listChoices_303 : decode gb_Model_listChoices 303 = .ok (.iload_n 2, 1) := by decide +kernel
theorem gd_Model_listChoices_304 : decode gb_Model_listChoices 304 = .ok (.aload_n 0, 1) := by decide +kernel
theorem gd_Model_listChoices_305 : decode gb_Model_listChoices 305 = .ok (.getfield 14, 3) := by decide +kernel
theorem gd_Model_listChoices_308 : decode gb_Model_listChoices 308 = .ok (.iload_n 3, 1) := by decide +kernel
theorem gd_Model_listChoices_309 : decode gb_Model_listChoices 309 = .ok (.iaload, 1) := by decide +kernel
theorem gd_Model_listChoices_310 : decode gb_Model_listChoices 310 = .ok (.iastore, 1) := by decide +kernel
theorem gd_Model_listChoices_311 : decode gb_Model_listChoices 311 = .ok (.aload_n 0, 1) := by decide +kernel
theorem gd_Model_listChoices_312 : decode gb_Model_listChoices 312 = .ok (.getfield 17, 3) := by decide +kernel
theorem gd_Model_listChoices_315 : decode gb_Model_listChoices 315 = .ok (.iload_n 2, 1) := by decide +kernel
theorem gd_Model_listChoices_316 : decode gb_Model_listChoices 316 = .ok (.aload_n 0, 1) := by decide +kernel
theorem gd_Model_listChoices_317 : decode gb_Model_listChoices 317 = .ok (.getfield 17, 3) := by decide +kernel
theorem gd_Model_listChoices_320 : decode gb_Model_listChoices 320 = .ok (.iload_n 3, 1) := by decide +kernel
theorem gd_Model_listChoices_321 : decode gb_Model_listChoices 321 = .ok (.iaload, 1) := by decide +kernel
theorem gd_Model_listChoices_322 : decode gb_Model_listChoices 322 = .ok (.iastore, 1) := by decide +kernel
theorem gd_Model_listChoices_323 : decode gb_Model_listChoices 323 = .ok (.iinc 2 1, 3) := by decide +kernel
theorem gd_Model_listChoices_326 : decode gb_Model_listChoices 326 = .ok (.iinc 3 1, 3) := by decide +kernel
theorem gd_Model_listChoices_329 : decode gb_Model_listChoices 329 = .ok (.goto (-71), 3) := by decide +kernel
theorem gd_Model_listChoices_332 : decode gb_Model_listChoices 332 = .ok (.aload_n 0, 1) := by decide +kernel
theorem gd_Model_listChoices_333 : decode gb_Model_listChoices 333 = .ok (.iload_n 2, 1) := by decide +kernel
theorem gd_Model_listChoices_334 : decode gb_Model_listChoices 334 = .ok (.putfield 168, 3) := by decide +kernel
theorem gd_Model_listChoices_337 : decode gb_Model_listChoices 337 = .ok (.return_, 1) := by decide +kernel
def gf_Model_listChoices_b191 (F : Nat) (z : gw_Sh) (rc_32 : gw_St → Nat → Int32 → Int32 → Option gw_St) (u : gw_St) (t0 : Nat) (x1 : Int32) (x2 : Int32) : Option gw_St :=
  gf_nm (x2 + 1) fun a1 => rc_32 u t0 x1 a1
def gf_Model_listChoices_b141 (F : Nat) (z : gw_Sh) (rc_32 : gw_St → Nat → Int32 → Int32 → Option gw_St) (u : gw_St) (t0 : Nat) (x1 : Int32) (x2 : Int32) (x3 : Int32) (x4 : Int32) (x7 : Int32) : Option gw_St :=
  if x7 = 0 then (gf_Model_listChoices_b191 F z rc_32 u t0 x1 x2) else (gf_nn (u.2.2 t0 10) fun q4 => if ((u.1 t0 9) < 0 ∨ z.2.2 q4 ≤ ((u.1 t0 9)).toNatClampNeg) then none else gf_nm (gw_wi u q4 ((u.1 t0 9)).toNatClampNeg x4) fun u7 => gf_nn (u7.2.2 t0 11) fun q9 => if ((u7.1 t0 9) < 0 ∨ z.2.2 q9 ≤ ((u7.1 t0 9)).toNatClampNeg) then none else gf_nm (gw_wi u7 q9 ((u7.1 t0 9)).toNatClampNeg x3) fun u12 => gf_nn (u12.2.2 t0 12) fun q14 => gf_cl (gf_Model_sumOf F z u12 t0 x3) fun a18 u16 => if ((u12.1 t0 9) < 0 ∨ z.2.2 q14 ≤ ((u12.1 t0 9)).toNatClampNeg) then none else gf_nm (gw_wi u16 q14 ((u12.1 t0 9)).toNatClampNeg a18) fun u20 => gf_nm (gw_wi u20 t0 9 ((u20.1 t0 9) + (1 : Int32))) fun u22 => gf_Model_listChoices_b191 F z rc_32 u22 t0 x1 x2)
def gf_Model_listChoices_b92 (F : Nat) (z : gw_Sh) (rc_32 : gw_St → Nat → Int32 → Int32 → Option gw_St) (rc_57 : gw_St → Nat → Int32 → Int32 → Int32 → Int32 → Int32 → Int32 → Int32 → Int32 → Option gw_St) (u : gw_St) (t0 : Nat) (x1 : Int32) (x2 : Int32) (x3 : Int32) (x4 : Int32) (x5 : Int32) (x8 : Int32) (x9 : Int32) (sx0 : Int32) : Option gw_St :=
  if (u.1 t0 6) = 0 then none else gf_nm (x5 / (u.1 t0 6)) fun a25 => gf_nm (x3 + (((u.1 t0 5) + x9) <<< (((7 : Int32) * x8) &&& 31))) fun a27 => gf_nm (x4 * ((u.1 t0 5) + x9)) fun a29 => gf_nm (x8 + 1) fun a31 => rc_57 u t0 x1 x2 a27 a29 a25 x9 sx0 a31
def gf_Model_listChoices_S57 (F : Nat) (z : gw_Sh) (rc_32 : gw_St → Nat → Int32 → Int32 → Option gw_St) (rc_57 : gw_St → Nat → Int32 → Int32 → Int32 → Int32 → Int32 → Int32 → Int32 → Int32 → Option gw_St) (u : gw_St) (t0 : Nat) (x1 : Int32) (x2 : Int32) (x3 : Int32) (x4 : Int32) (x5 : Int32) (x6 : Int32) (x7 : Int32) (x8 : Int32) : Option gw_St :=
  if (u.1 t0 4) ≤ x8 then (gf_Model_listChoices_b141 F z rc_32 u t0 x1 x2 x3 x4 x7) else (if x7 = 0 then (gf_Model_listChoices_b141 F z rc_32 u t0 x1 x2 x3 x4 x7) else (if (u.1 t0 6) = 0 then none else gf_nm (x5 - x5 / (u.1 t0 6) * (u.1 t0 6)) fun a36 => if x6 < a36 then (gf_Model_listChoices_b92 F z rc_32 rc_57 u t0 x1 x2 x3 x4 x5 x8 a36 0) else (gf_Model_listChoices_b92 F z rc_32 rc_57 u t0 x1 x2 x3 x4 x5 x8 a36 1)))
def gf_Model_listChoices_L57 (F : Nat) (z : gw_Sh) (rc_32 : gw_St → Nat → Int32 → Int32 → Option gw_St) : Nat → gw_St → Nat → Int32 → Int32 → Int32 → Int32 → Int32 → Int32 → Int32 → Int32 → Option gw_St
  | 0 => fun _ _ _ _ _ _ _ _ _ _ => none
  | n + 1 => fun u t0 x1 x2 x3 x4 x5 x6 x7 x8 => gf_Model_listChoices_S57 F z rc_32 (gf_Model_listChoices_L57 F z rc_32 n) u t0 x1 x2 x3 x4 x5 x6 x7 x8
def gf_Model_listChoices_b326 (F : Nat) (z : gw_Sh) (rc_258 : gw_St → Nat → Int32 → Int32 → Option gw_St) (u : gw_St) (t0 : Nat) (x2 : Int32) (x3 : Int32) : Option gw_St :=
  gf_nm (x3 + 1) fun a39 => rc_258 u t0 x2 a39
def gf_Model_listChoices_b287 (F : Nat) (z : gw_Sh) (rc_258 : gw_St → Nat → Int32 → Int32 → Option gw_St) (u : gw_St) (t0 : Nat) (x2 : Int32) (x3 : Int32) : Option gw_St :=
  gf_nn (u.2.2 t0 10) fun q41 => gf_nn (u.2.2 t0 10) fun q43 => if (x3 < 0 ∨ z.2.2 q43 ≤ (x3).toNatClampNeg) then none else if (x2 < 0 ∨ z.2.2 q41 ≤ (x2).toNatClampNeg) then none else gf_nm (gw_wi u q41 (x2).toNatClampNeg (u.1 q43 (x3).toNatClampNeg)) fun u47 => gf_nn (u47.2.2 t0 11) fun q49 => gf_nn (u47.2.2 t0 11) fun q51 => if (x3 < 0 ∨ z.2.2 q51 ≤ (x3).toNatClampNeg) then none else if (x2 < 0 ∨ z.2.2 q49 ≤ (x2).toNatClampNeg) then none else gf_nm (gw_wi u47 q49 (x2).toNatClampNeg (u47.1 q51 (x3).toNatClampNeg)) fun u55 => gf_nn (u55.2.2 t0 12) fun q57 => gf_nn (u55.2.2 t0 12) fun q59 => if (x3 < 0 ∨ z.2.2 q59 ≤ (x3).toNatClampNeg) then none else if (x2 < 0 ∨ z.2.2 q57 ≤ (x2).toNatClampNeg) then none else gf_nm (gw_wi u55 q57 (x2).toNatClampNeg (u55.1 q59 (x3).toNatClampNeg)) fun u63 => gf_nm (x2 + 1) fun a65 => gf_Model_listChoices_b326 F z rc_258 u63 t0 a65 x3
def gf_Model_listChoices_S258 (F : Nat) (z : gw_Sh)  (rc_258 : gw_St → Nat → Int32 → Int32 → Option gw_St) (u : gw_St) (t0 : Nat) (x2 : Int32) (x3 : Int32) : Option gw_St :=
  if (u.1 t0 9) ≤ x3 then (gf_nm (gw_wi u t0 9 x2) fun u68 => some u68) else (if x2 = 0 then (gf_Model_listChoices_b287 F z rc_258 u t0 x2 x3) else (gf_nn (u.2.2 t0 10) fun q71 => if ((x2 - (1 : Int32)) < 0 ∨ z.2.2 q71 ≤ ((x2 - (1 : Int32))).toNatClampNeg) then none else gf_nn (u.2.2 t0 10) fun q74 => if (x3 < 0 ∨ z.2.2 q74 ≤ (x3).toNatClampNeg) then none else if (u.1 q71 ((x2 - (1 : Int32))).toNatClampNeg) = (u.1 q74 (x3).toNatClampNeg) then (gf_Model_listChoices_b326 F z rc_258 u t0 x2 x3) else (gf_Model_listChoices_b287 F z rc_258 u t0 x2 x3)))
def gf_Model_listChoices_L258 (F : Nat) (z : gw_Sh)  : Nat → gw_St → Nat → Int32 → Int32 → Option gw_St
  | 0 => fun _ _ _ _ => none
  | n + 1 => fun u t0 x2 x3 => gf_Model_listChoices_S258 F z  (gf_Model_listChoices_L258 F z  n) u t0 x2 x3
def gf_Model_listChoices_S232 (F : Nat) (z : gw_Sh)  (rc_232 : gw_St → Nat → Int32 → Option gw_St) (u : gw_St) (t0 : Nat) (x2 : Int32) : Option gw_St :=
  if x2 ≤ 0 then (gf_Model_listChoices_L258 F z  F u t0 0 0) else ((gf_Model_swap F z u t0 (0 : Int32) x2).bind fun u79 => (gf_Model_sink F z u79 t0 (0 : Int32) x2).bind fun u81 => gf_nm (x2 + (-1)) fun a83 => rc_232 u81 t0 a83)
def gf_Model_listChoices_L232 (F : Nat) (z : gw_Sh)  : Nat → gw_St → Nat → Int32 → Option gw_St
  | 0 => fun _ _ _ => none
  | n + 1 => fun u t0 x2 => gf_Model_listChoices_S232 F z  (gf_Model_listChoices_L232 F z  n) u t0 x2
def gf_Model_listChoices_S206 (F : Nat) (z : gw_Sh)  (rc_206 : gw_St → Nat → Int32 → Option gw_St) (u : gw_St) (t0 : Nat) (x2 : Int32) : Option gw_St :=
  if x2 < 0 then (gf_nm ((u.1 t0 9) - (1 : Int32)) fun a86 => gf_Model_listChoices_L232 F z  F u t0 a86) else ((gf_Model_sink F z u t0 x2 (u.1 t0 9)).bind fun u88 => gf_nm (x2 + (-1)) fun a90 => rc_206 u88 t0 a90)
def gf_Model_listChoices_L206 (F : Nat) (z : gw_Sh)  : Nat → gw_St → Nat → Int32 → Option gw_St
  | 0 => fun _ _ _ => none
  | n + 1 => fun u t0 x2 => gf_Model_listChoices_S206 F z  (gf_Model_listChoices_L206 F z  n) u t0 x2
def gf_Model_listChoices_S32 (F : Nat) (z : gw_Sh)  (rc_32 : gw_St → Nat → Int32 → Int32 → Option gw_St) (u : gw_St) (t0 : Nat) (x1 : Int32) (x2 : Int32) : Option gw_St :=
  if x1 ≤ x2 then (if (2 : Int32) = 0 then none else gf_nm (((u.1 t0 9) / (2 : Int32)) - (1 : Int32)) fun a94 => gf_Model_listChoices_L206 F z  F u t0 a94) else (gf_nm (u.1 t0 6) fun a96 => gf_Model_listChoices_L57 F z rc_32 F u t0 x1 x2 0 1 x2 a96 1 0)
def gf_Model_listChoices_L32 (F : Nat) (z : gw_Sh)  : Nat → gw_St → Nat → Int32 → Int32 → Option gw_St
  | 0 => fun _ _ _ _ => none
  | n + 1 => fun u t0 x1 x2 => gf_Model_listChoices_S32 F z  (gf_Model_listChoices_L32 F z  n) u t0 x1 x2
def gf_Model_listChoices_S9 (F : Nat) (z : gw_Sh)  (rc_9 : gw_St → Nat → Int32 → Int32 → Option gw_St) (u : gw_St) (t0 : Nat) (x1 : Int32) (x2 : Int32) : Option gw_St :=
  if (u.1 t0 4) ≤ x2 then (gf_Model_listChoices_L32 F z  F u t0 x1 0) else (gf_nm (x1 * (u.1 t0 6)) fun a99 => gf_nm (x2 + 1) fun a101 => rc_9 u t0 a99 a101)
def gf_Model_listChoices_L9 (F : Nat) (z : gw_Sh)  : Nat → gw_St → Nat → Int32 → Int32 → Option gw_St
  | 0 => fun _ _ _ _ => none
  | n + 1 => fun u t0 x1 x2 => gf_Model_listChoices_S9 F z  (gf_Model_listChoices_L9 F z  n) u t0 x1 x2
def gf_Model_listChoices_b0 (F : Nat) (z : gw_Sh)  (u : gw_St) (t0 : Nat) : Option gw_St :=
  gf_nm (gw_wi u t0 9 (0 : Int32)) fun u103 => gf_Model_listChoices_L9 F z  F u103 t0 1 0
def gf_Model_listChoices (F : Nat) (z : gw_Sh) (u : gw_St) (t0 : Nat) : Option gw_St := gf_Model_listChoices_b0 F z  u t0
set_option maxHeartbeats 4000000 in
set_option maxRecDepth 20000 in
theorem gx_Model_listChoices_b191 {p : Program} {l : Launch} {e : Env} {s : State} {m : MethodId} {args : Array Value} {below : List Frame} {meth : Method} {c : Code} {D : va_G} {cA : Nat → ClassId} {hs : Nat → Nat} {z : gw_Sh} (F : Nat) {r0 : gw_St} (C : gw_Cx p s m args c gb_Model_listChoices 10 R_Model D cA) (hr : meth.sig.returnType = none) (hk : meth.locks = false) {rc_32 : gw_St → Nat → Int32 → Int32 → Option gw_St} (k_32 : ∀ (u : gw_St) (t0 : Nat) (x1 : Int32) (x2 : Int32) (H : Heap) (locs : List Loc) (ls : Array Slot), gw_ok z t0 9 → gw_Wx D cA hs z s u H locs → lv_has ls 10 [(0, .ref (hs t0)), (1, .int x1), (2, .int x2)] → rc_32 u t0 x1 x2 = some r0 → gw_Gv p l e gr_Model_listChoices s m args below meth c D cA hs z r0 H locs ls 32 []) (u : gw_St) (t0 : Nat) (x1 : Int32) (x2 : Int32) (o_t0 : gw_ok z t0 9) {H : Heap} {locs : List Loc} {ls : Array Slot} (hW : gw_Wx D cA hs z s u H locs) (hl : lv_has ls 10 [(0, .ref (hs t0)), (1, .int x1), (2, .int x2)]) (h : gf_Model_listChoices_b191 F z rc_32  u t0 x1 x2 = some r0) : gw_Gv p l e gr_Model_listChoices s m args below meth c D cA hs z r0 H locs ls 191 [] := by
  obtain ⟨hx, hb, hml, hown, hts, hK⟩ := id C
  unfold gf_Model_listChoices_b191 at h
  obtain ⟨a1, e2⟩ : ∃ y : Int32, y = x2 + 1 := ⟨_, rfl⟩
  have h := gf_nm_ok e2 h
  refine lv_iinc (v := a1) (lv' := [(2, .int a1), (0, .ref (hs t0)), (1, .int x1)]) hx hb gd_Model_listChoices_191 hl (k := 2) rfl (by rw [e2]; rfl) (by decide) rfl (fun ls hl => ?_)
  refine lv_goto (tgt := 32) hx hb gd_Model_listChoices_194 (by decide) ?_
  exact k_32 u t0 x1 a1 _ _ _ o_t0 hW (lv_sub hl [1, 2, 0] rfl) h

set_option maxHeartbeats 4000000 in
set_option maxRecDepth 20000 in
theorem gx_Model_listChoices_b141 {p : Program} {l : Launch} {e : Env} {s : State} {m : MethodId} {args : Array Value} {below : List Frame} {meth : Method} {c : Code} {D : va_G} {cA : Nat → ClassId} {hs : Nat → Nat} {z : gw_Sh} (F : Nat) {r0 : gw_St} (C : gw_Cx p s m args c gb_Model_listChoices 10 R_Model D cA) (hr : meth.sig.returnType = none) (hk : meth.locks = false) {rc_32 : gw_St → Nat → Int32 → Int32 → Option gw_St} (k_32 : ∀ (u : gw_St) (t0 : Nat) (x1 : Int32) (x2 : Int32) (H : Heap) (locs : List Loc) (ls : Array Slot), gw_ok z t0 9 → gw_Wx D cA hs z s u H locs → lv_has ls 10 [(0, .ref (hs t0)), (1, .int x1), (2, .int x2)] → rc_32 u t0 x1 x2 = some r0 → gw_Gv p l e gr_Model_listChoices s m args below meth c D cA hs z r0 H locs ls 32 []) (u : gw_St) (t0 : Nat) (x1 : Int32) (x2 : Int32) (x3 : Int32) (x4 : Int32) (x7 : Int32) (o_t0 : gw_ok z t0 9) {H : Heap} {locs : List Loc} {ls : Array Slot} (hW : gw_Wx D cA hs z s u H locs) (hl : lv_has ls 10 [(0, .ref (hs t0)), (1, .int x1), (2, .int x2), (3, .int x3), (4, .int x4), (7, .int x7)]) (h : gf_Model_listChoices_b141 F z rc_32  u t0 x1 x2 x3 x4 x7 = some r0) : gw_Gv p l e gr_Model_listChoices s m args below meth c D cA hs z r0 H locs ls 141 [] := by
  obtain ⟨hx, hb, hml, hown, hts, hK⟩ := id C
  unfold gf_Model_listChoices_b141 at h
  refine lv_iload hx hb gd_Model_listChoices_141 (lv_at hl 5 rfl) ?_
  refine lv_if_eq (tgt := 191) hx hb gd_Model_listChoices_143 (by decide) (fun c3 => ?_) (fun c3 => ?_)
  · have h := gf_t c3 h
    exact gx_Model_listChoices_b191 F C hr hk k_32 u t0 x1 x2 o_t0 hW (lv_sub hl [0, 1, 2] rfl) h
  · have h := gf_f c3 h
    refine lv_aload_n hx hb gd_Model_listChoices_146 rfl (lv_at hl 0 rfl) ?_
    obtain ⟨q4, e5, h⟩ := gf_nn_ok h
    refine gw_getr (k := 10) (ty := 10) (ref := R_Model) C hW o_t0 (by decide) rfl gi_Model rfl (by decide) rfl rfl gk_408 gd_Model_listChoices_147 e5 ?_
    have o_q4 := hW.ref (d := 10) o_t0 e5 rfl
    refine lv_aload_n hx hb gd_Model_listChoices_150 rfl (lv_at hl 0 rfl) ?_
    refine gw_geti (k := 9) (ref := R_Model) C hW o_t0 (by decide) rfl gi_Model rfl (by decide) rfl rfl gk_420 gd_Model_listChoices_151 ?_
    refine lv_iload hx hb gd_Model_listChoices_154 (lv_at hl 4 rfl) ?_
    obtain ⟨g6, h⟩ := gf_if_ok h
    refine gw_iast C hW o_q4 g6 gd_Model_listChoices_156 (fun u7 H locs e8 hW => ?_)
    have h := gf_nm_ok e8 h
    refine lv_aload_n hx hb gd_Model_listChoices_157 rfl (lv_at hl 0 rfl) ?_
    obtain ⟨q9, e10, h⟩ := gf_nn_ok h
    refine gw_getr (k := 11) (ty := 10) (ref := R_Model) C hW o_t0 (by decide) rfl gi_Model rfl (by decide) rfl rfl gk_410 gd_Model_listChoices_158 e10 ?_
    have o_q9 := hW.ref (d := 10) o_t0 e10 rfl
    refine lv_aload_n hx hb gd_Model_listChoices_161 rfl (lv_at hl 0 rfl) ?_
    refine gw_geti (k := 9) (ref := R_Model) C hW o_t0 (by decide) rfl gi_Model rfl (by decide) rfl rfl gk_420 gd_Model_listChoices_162 ?_
    refine lv_iload_n hx hb gd_Model_listChoices_165 rfl (lv_at hl 3 rfl) ?_
    obtain ⟨g11, h⟩ := gf_if_ok h
    refine gw_iast C hW o_q9 g11 gd_Model_listChoices_166 (fun u12 H locs e13 hW => ?_)
    have h := gf_nm_ok e13 h
    refine lv_aload_n hx hb gd_Model_listChoices_167 rfl (lv_at hl 0 rfl) ?_
    obtain ⟨q14, e15, h⟩ := gf_nn_ok h
    refine gw_getr (k := 12) (ty := 10) (ref := R_Model) C hW o_t0 (by decide) rfl gi_Model rfl (by decide) rfl rfl gk_409 gd_Model_listChoices_168 e15 ?_
    have o_q14 := hW.ref (d := 10) o_t0 e15 rfl
    refine lv_aload_n hx hb gd_Model_listChoices_171 rfl (lv_at hl 0 rfl) ?_
    refine gw_geti (k := 9) (ref := R_Model) C hW o_t0 (by decide) rfl gi_Model rfl (by decide) rfl rfl gk_420 gd_Model_listChoices_172 ?_
    refine lv_aload_n hx hb gd_Model_listChoices_175 rfl (lv_at hl 0 rfl) ?_
    refine lv_iload_n hx hb gd_Model_listChoices_176 rfl (lv_at hl 3 rfl) ?_
    obtain ⟨a18, u16, d17, h⟩ := gf_cl_ok h
    refine gw_callVi (K := R_Model) (As := [.int x3]) (rest := [.int (u12.1 t0 9), .ref (hs q14)]) C hW (fun _ h => Or.inr h) hl.1 gm_Model_sumOf (gc_Model_sumOf l F o_t0 d17 _) gk_421 gk_422 gk_423 o_t0 (by decide) rfl rfl rfl ⟨Nat.le_of_ble_eq_true rfl, Nat.le_of_ble_eq_true rfl⟩ ⟨Nat.zero_le _, Nat.zero_le _⟩ rfl rfl (Nat.le_of_ble_eq_true rfl) gd_Model_listChoices_177 (fun H locs hW => ?_)
    obtain ⟨g19, h⟩ := gf_if_ok h
    refine gw_iast C hW o_q14 g19 gd_Model_listChoices_180 (fun u20 H locs e21 hW => ?_)
    have h := gf_nm_ok e21 h
    refine lv_aload_n hx hb gd_Model_listChoices_181 rfl (lv_at hl 0 rfl) ?_
    refine lv_dup hx hb gd_Model_listChoices_182 rfl ?_
    refine gw_geti (k := 9) (ref := R_Model) C hW o_t0 (by decide) rfl gi_Model rfl (by decide) rfl rfl gk_420 gd_Model_listChoices_183 ?_
    refine lv_iconst (v := 1) hx hb gd_Model_listChoices_186 (by decide) ?_
    refine lv_iadd hx hb gd_Model_listChoices_187 ?_
    refine gw_puti (k := 9) (ref := R_Model) (fty := .int) C hW o_t0 (by decide) rfl gi_Model rfl (by decide) rfl rfl gk_420 tf_Model tf_Model_ok nm_Model rfl rfl rfl rfl gd_Model_listChoices_188 (fun u22 H locs e23 hW => ?_)
    have h := gf_nm_ok e23 h
    exact gx_Model_listChoices_b191 F C hr hk k_32 u22 t0 x1 x2 o_t0 hW (lv_sub hl [0, 1, 2] rfl) h

set_option maxHeartbeats 4000000 in
set_option maxRecDepth 20000 in
theorem gx_Model_listChoices_b92 {p : Program} {l : Launch} {e : Env} {s : State} {m : MethodId} {args : Array Value} {below : List Frame} {meth : Method} {c : Code} {D : va_G} {cA : Nat → ClassId} {hs : Nat → Nat} {z : gw_Sh} (F : Nat) {r0 : gw_St} (C : gw_Cx p s m args c gb_Model_listChoices 10 R_Model D cA) (hr : meth.sig.returnType = none) (hk : meth.locks = false) {rc_32 : gw_St → Nat → Int32 → Int32 → Option gw_St} (k_32 : ∀ (u : gw_St) (t0 : Nat) (x1 : Int32) (x2 : Int32) (H : Heap) (locs : List Loc) (ls : Array Slot), gw_ok z t0 9 → gw_Wx D cA hs z s u H locs → lv_has ls 10 [(0, .ref (hs t0)), (1, .int x1), (2, .int x2)] → rc_32 u t0 x1 x2 = some r0 → gw_Gv p l e gr_Model_listChoices s m args below meth c D cA hs z r0 H locs ls 32 []) {rc_57 : gw_St → Nat → Int32 → Int32 → Int32 → Int32 → Int32 → Int32 → Int32 → Int32 → Option gw_St} (k_57 : ∀ (u : gw_St) (t0 : Nat) (x1 : Int32) (x2 : Int32) (x3 : Int32) (x4 : Int32) (x5 : Int32) (x6 : Int32) (x7 : Int32) (x8 : Int32) (H : Heap) (locs : List Loc) (ls : Array Slot), gw_ok z t0 9 → gw_Wx D cA hs z s u H locs → lv_has ls 10 [(0, .ref (hs t0)), (1, .int x1), (2, .int x2), (3, .int x3), (4, .int x4), (5, .int x5), (6, .int x6), (7, .int x7), (8, .int x8)] → rc_57 u t0 x1 x2 x3 x4 x5 x6 x7 x8 = some r0 → gw_Gv p l e gr_Model_listChoices s m args below meth c D cA hs z r0 H locs ls 57 []) (u : gw_St) (t0 : Nat) (x1 : Int32) (x2 : Int32) (x3 : Int32) (x4 : Int32) (x5 : Int32) (x8 : Int32) (x9 : Int32) (sx0 : Int32) (o_t0 : gw_ok z t0 9) {H : Heap} {locs : List Loc} {ls : Array Slot} (hW : gw_Wx D cA hs z s u H locs) (hl : lv_has ls 10 [(0, .ref (hs t0)), (1, .int x1), (2, .int x2), (3, .int x3), (4, .int x4), (5, .int x5), (8, .int x8), (9, .int x9)]) (h : gf_Model_listChoices_b92 F z rc_32 rc_57  u t0 x1 x2 x3 x4 x5 x8 x9 sx0 = some r0) : gw_Gv p l e gr_Model_listChoices s m args below meth c D cA hs z r0 H locs ls 92 [.int sx0] := by
  obtain ⟨hx, hb, hml, hown, hts, hK⟩ := id C
  unfold gf_Model_listChoices_b92 at h
  refine lv_istore (lv' := [(7, .int sx0), (0, .ref (hs t0)), (1, .int x1), (2, .int x2), (3, .int x3), (4, .int x4), (5, .int x5), (8, .int x8), (9, .int x9)]) hx hb gd_Model_listChoices_92 hl (by decide) rfl (fun ls hl => ?_)
  refine lv_iload hx hb gd_Model_listChoices_94 (lv_at hl 8 rfl) ?_
  refine lv_istore (lv' := [(6, .int x9), (7, .int sx0), (0, .ref (hs t0)), (1, .int x1), (2, .int x2), (3, .int x3), (4, .int x4), (5, .int x5), (8, .int x8), (9, .int x9)]) hx hb gd_Model_listChoices_96 hl (by decide) rfl (fun ls hl => ?_)
  refine lv_iload hx hb gd_Model_listChoices_98 (lv_at hl 7 rfl) ?_
  refine lv_aload_n hx hb gd_Model_listChoices_100 rfl (lv_at hl 2 rfl) ?_
  refine gw_geti (k := 6) (ref := R_Model) C hW o_t0 (by decide) rfl gi_Model rfl (by decide) rfl rfl gk_393 gd_Model_listChoices_101 ?_
  obtain ⟨g24, h⟩ := gf_if_ok h
  refine lv_idiv hx hb gd_Model_listChoices_104 g24 ?_
  refine lv_topi (fun a25 e26 => ?_)
  have h := gf_nm_ok e26 h
  refine lv_istore (lv' := [(5, .int a25), (6, .int x9), (7, .int sx0), (0, .ref (hs t0)), (1, .int x1), (2, .int x2), (3, .int x3), (4, .int x4), (8, .int x8), (9, .int x9)]) hx hb gd_Model_listChoices_105 hl (by decide) rfl (fun ls hl => ?_)
  refine lv_iload_n hx hb gd_Model_listChoices_107 rfl (lv_at hl 6 rfl) ?_
  refine lv_aload_n hx hb gd_Model_listChoices_108 rfl (lv_at hl 3 rfl) ?_
  refine gw_geti (k := 5) (ref := R_Model) C hW o_t0 (by decide) rfl gi_Model rfl (by decide) rfl rfl gk_392 gd_Model_listChoices_109 ?_
  refine lv_iload hx hb gd_Model_listChoices_112 (lv_at hl 9 rfl) ?_
  refine lv_iadd hx hb gd_Model_listChoices_114 ?_
  refine lv_bipush (v := 7) hx hb gd_Model_listChoices_115 (by decide) ?_
  refine lv_iload hx hb gd_Model_listChoices_117 (lv_at hl 8 rfl) ?_
  refine lv_imul hx hb gd_Model_listChoices_119 ?_
  refine lv_ishl hx hb gd_Model_listChoices_120 ?_
  refine lv_iadd hx hb gd_Model_listChoices_121 ?_
  refine lv_topi (fun a27 e28 => ?_)
  have h := gf_nm_ok e28 h
  refine lv_istore_n (lv' := [(3, .int a27), (5, .int a25), (6, .int x9), (7, .int sx0), (0, .ref (hs t0)), (1, .int x1), (2, .int x2), (4, .int x4), (8, .int x8), (9, .int x9)]) hx hb gd_Model_listChoices_122 rfl hl (by decide) rfl (fun ls hl => ?_)
  refine lv_iload hx hb gd_Model_listChoices_123 (lv_at hl 7 rfl) ?_
  refine lv_aload_n hx hb gd_Model_listChoices_125 rfl (lv_at hl 4 rfl) ?_
  refine gw_geti (k := 5) (ref := R_Model) C hW o_t0 (by decide) rfl gi_Model rfl (by decide) rfl rfl gk_392 gd_Model_listChoices_126 ?_
  refine lv_iload hx hb gd_Model_listChoices_129 (lv_at hl 9 rfl) ?_
  refine lv_iadd hx hb gd_Model_listChoices_131 ?_
  refine lv_imul hx hb gd_Model_listChoices_132 ?_
  refine lv_topi (fun a29 e30 => ?_)
  have h := gf_nm_ok e30 h
  refine lv_istore (lv' := [(4, .int a29), (3, .int a27), (5, .int a25), (6, .int x9), (7, .int sx0), (0, .ref (hs t0)), (1, .int x1), (2, .int x2), (8, .int x8), (9, .int x9)]) hx hb gd_Model_listChoices_133 hl (by decide) rfl (fun ls hl => ?_)
  obtain ⟨a31, e32⟩ : ∃ y : Int32, y = x8 + 1 := ⟨_, rfl⟩
  have h := gf_nm_ok e32 h
  refine lv_iinc (v := a31) (lv' := [(8, .int a31), (4, .int a29), (3, .int a27), (5, .int a25), (6, .int x9), (7, .int sx0), (0, .ref (hs t0)), (1, .int x1), (2, .int x2), (9, .int x9)]) hx hb gd_Model_listChoices_135 hl (k := 8) rfl (by rw [e32]; rfl) (by decide) rfl (fun ls hl => ?_)
  refine lv_goto (tgt := 57) hx hb gd_Model_listChoices_138 (by decide) ?_
  exact k_57 u t0 x1 x2 a27 a29 a25 x9 sx0 a31 _ _ _ o_t0 hW (lv_sub hl [6, 7, 8, 2, 1, 3, 4, 5, 0] rfl) h

set_option maxHeartbeats 4000000 in
set_option maxRecDepth 20000 in
theorem gx_Model_listChoices_S57 {p : Program} {l : Launch} {e : Env} {s : State} {m : MethodId} {args : Array Value} {below : List Frame} {meth : Method} {c : Code} {D : va_G} {cA : Nat → ClassId} {hs : Nat → Nat} {z : gw_Sh} (F : Nat) {r0 : gw_St} (C : gw_Cx p s m args c gb_Model_listChoices 10 R_Model D cA) (hr : meth.sig.returnType = none) (hk : meth.locks = false) {rc_32 : gw_St → Nat → Int32 → Int32 → Option gw_St} (k_32 : ∀ (u : gw_St) (t0 : Nat) (x1 : Int32) (x2 : Int32) (H : Heap) (locs : List Loc) (ls : Array Slot), gw_ok z t0 9 → gw_Wx D cA hs z s u H locs → lv_has ls 10 [(0, .ref (hs t0)), (1, .int x1), (2, .int x2)] → rc_32 u t0 x1 x2 = some r0 → gw_Gv p l e gr_Model_listChoices s m args below meth c D cA hs z r0 H locs ls 32 []) {rc_57 : gw_St → Nat → Int32 → Int32 → Int32 → Int32 → Int32 → Int32 → Int32 → Int32 → Option gw_St} (k_57 : ∀ (u : gw_St) (t0 : Nat) (x1 : Int32) (x2 : Int32) (x3 : Int32) (x4 : Int32) (x5 : Int32) (x6 : Int32) (x7 : Int32) (x8 : Int32) (H : Heap) (locs : List Loc) (ls : Array Slot), gw_ok z t0 9 → gw_Wx D cA hs z s u H locs → lv_has ls 10 [(0, .ref (hs t0)), (1, .int x1), (2, .int x2), (3, .int x3), (4, .int x4), (5, .int x5), (6, .int x6), (7, .int x7), (8, .int x8)] → rc_57 u t0 x1 x2 x3 x4 x5 x6 x7 x8 = some r0 → gw_Gv p l e gr_Model_listChoices s m args below meth c D cA hs z r0 H locs ls 57 []) (u : gw_St) (t0 : Nat) (x1 : Int32) (x2 : Int32) (x3 : Int32) (x4 : Int32) (x5 : Int32) (x6 : Int32) (x7 : Int32) (x8 : Int32) (o_t0 : gw_ok z t0 9) {H : Heap} {locs : List Loc} {ls : Array Slot} (hW : gw_Wx D cA hs z s u H locs) (hl : lv_has ls 10 [(0, .ref (hs t0)), (1, .int x1), (2, .int x2), (3, .int x3), (4, .int x4), (5, .int x5), (6, .int x6), (7, .int x7), (8, .int x8)]) (h : gf_Model_listChoices_S57 F z rc_32 rc_57 u t0 x1 x2 x3 x4 x5 x6 x7 x8 = some r0) : gw_Gv p l e gr_Model_listChoices s m args below meth c D cA hs z r0 H locs ls 57 [] := by
  obtain ⟨hx, hb, hml, hown, hts, hK⟩ := id C
  unfold gf_Model_listChoices_S57 at h
  refine lv_iload hx hb gd_Model_listChoices_57 (lv_at hl 8 rfl) ?_
  refine lv_aload_n hx hb gd_Model_listChoices_59 rfl (lv_at hl 0 rfl) ?_
  refine gw_geti (k := 4) (ref := R_Model) C hW o_t0 (by decide) rfl gi_Model rfl (by decide) rfl rfl gk_391 gd_Model_listChoices_60 ?_
  refine lv_icmp_ge (tgt := 141) hx hb gd_Model_listChoices_63 (by decide) (fun c33 => ?_) (fun c33 => ?_)
  · have h := gf_t c33 h
    exact gx_Model_listChoices_b141 F C hr hk k_32 u t0 x1 x2 x3 x4 x7 o_t0 hW (lv_sub hl [0, 1, 2, 3, 4, 7] rfl) h
  · have h := gf_f c33 h
    refine lv_iload hx hb gd_Model_listChoices_66 (lv_at hl 7 rfl) ?_
    refine lv_if_eq (tgt := 141) hx hb gd_Model_listChoices_68 (by decide) (fun c34 => ?_) (fun c34 => ?_)
    · have h := gf_t c34 h
      exact gx_Model_listChoices_b141 F C hr hk k_32 u t0 x1 x2 x3 x4 x7 o_t0 hW (lv_sub hl [0, 1, 2, 3, 4, 7] rfl) h
    · have h := gf_f c34 h
      refine lv_iload hx hb gd_Model_listChoices_71 (lv_at hl 5 rfl) ?_
      refine lv_aload_n hx hb gd_Model_listChoices_73 rfl (lv_at hl 0 rfl) ?_
      refine gw_geti (k := 6) (ref := R_Model) C hW o_t0 (by decide) rfl gi_Model rfl (by decide) rfl rfl gk_393 gd_Model_listChoices_74 ?_
      obtain ⟨g35, h⟩ := gf_if_ok h
      refine lv_irem hx hb gd_Model_listChoices_77 g35 ?_
      refine lv_topi (fun a36 e37 => ?_)
      have h := gf_nm_ok e37 h
      refine lv_istore (lv' := [(9, .int a36), (0, .ref (hs t0)), (1, .int x1), (2, .int x2), (3, .int x3), (4, .int x4), (5, .int x5), (6, .int x6), (7, .int x7), (8, .int x8)]) hx hb gd_Model_listChoices_78 hl (by decide) rfl (fun ls hl => ?_)
      refine lv_iload hx hb gd_Model_listChoices_80 (lv_at hl 0 rfl) ?_
      refine lv_iload hx hb gd_Model_listChoices_82 (lv_at hl 7 rfl) ?_
      refine lv_icmp_gt (tgt := 91) hx hb gd_Model_listChoices_84 (by decide) (fun c38 => ?_) (fun c38 => ?_)
      · have h := gf_t c38 h
        refine lv_iconst (v := 0) hx hb gd_Model_listChoices_91 (by decide) ?_
        exact gx_Model_listChoices_b92 F C hr hk k_32 k_57 u t0 x1 x2 x3 x4 x5 x8 a36 0 o_t0 hW (lv_sub hl [1, 2, 3, 4, 5, 6, 9, 0] rfl) h
      · have h := gf_f c38 h
        refine lv_iconst (v := 1) hx hb gd_Model_listChoices_87 (by decide) ?_
        refine lv_goto (tgt := 92) hx hb gd_Model_listChoices_88 (by decide) ?_
        exact gx_Model_listChoices_b92 F C hr hk k_32 k_57 u t0 x1 x2 x3 x4 x5 x8 a36 1 o_t0 hW (lv_sub hl [1, 2, 3, 4, 5, 6, 9, 0] rfl) h
set_option maxHeartbeats 4000000 in
set_option maxRecDepth 20000 in
theorem gx_Model_listChoices_L57 {p : Program} {l : Launch} {e : Env} {s : State} {m : MethodId} {args : Array Value} {below : List Frame} {meth : Method} {c : Code} {D : va_G} {cA : Nat → ClassId} {hs : Nat → Nat} {z : gw_Sh} (F : Nat) {r0 : gw_St} (C : gw_Cx p s m args c gb_Model_listChoices 10 R_Model D cA) (hr : meth.sig.returnType = none) (hk : meth.locks = false) {rc_32 : gw_St → Nat → Int32 → Int32 → Option gw_St} (k_32 : ∀ (u : gw_St) (t0 : Nat) (x1 : Int32) (x2 : Int32) (H : Heap) (locs : List Loc) (ls : Array Slot), gw_ok z t0 9 → gw_Wx D cA hs z s u H locs → lv_has ls 10 [(0, .ref (hs t0)), (1, .int x1), (2, .int x2)] → rc_32 u t0 x1 x2 = some r0 → gw_Gv p l e gr_Model_listChoices s m args below meth c D cA hs z r0 H locs ls 32 []) : ∀ (n : Nat), ∀ (u : gw_St) (t0 : Nat) (x1 : Int32) (x2 : Int32) (x3 : Int32) (x4 : Int32) (x5 : Int32) (x6 : Int32) (x7 : Int32) (x8 : Int32) (H : Heap) (locs : List Loc) (ls : Array Slot), gw_ok z t0 9 → gw_Wx D cA hs z s u H locs → lv_has ls 10 [(0, .ref (hs t0)), (1, .int x1), (2, .int x2), (3, .int x3), (4, .int x4), (5, .int x5), (6, .int x6), (7, .int x7), (8, .int x8)] → gf_Model_listChoices_L57 F z rc_32 n u t0 x1 x2 x3 x4 x5 x6 x7 x8 = some r0 → gw_Gv p l e gr_Model_listChoices s m args below meth c D cA hs z r0 H locs ls 57 [] := by
  intro n
  induction n with
  | zero =>
    intro u t0 x1 x2 x3 x4 x5 x6 x7 x8 H locs ls o_t0 hW hl h
    cases h
  | succ n ih =>
    intro u t0 x1 x2 x3 x4 x5 x6 x7 x8 H locs ls o_t0 hW hl h
    exact gx_Model_listChoices_S57 F C hr hk k_32 ih u t0 x1 x2 x3 x4 x5 x6 x7 x8 o_t0 hW hl h

set_option maxHeartbeats 4000000 in
set_option maxRecDepth 20000 in
theorem gx_Model_listChoices_b326 {p : Program} {l : Launch} {e : Env} {s : State} {m : MethodId} {args : Array Value} {below : List Frame} {meth : Method} {c : Code} {D : va_G} {cA : Nat → ClassId} {hs : Nat → Nat} {z : gw_Sh} (F : Nat) {r0 : gw_St} (C : gw_Cx p s m args c gb_Model_listChoices 10 R_Model D cA) (hr : meth.sig.returnType = none) (hk : meth.locks = false) {rc_258 : gw_St → Nat → Int32 → Int32 → Option gw_St} (k_258 : ∀ (u : gw_St) (t0 : Nat) (x2 : Int32) (x3 : Int32) (H : Heap) (locs : List Loc) (ls : Array Slot), gw_ok z t0 9 → gw_Wx D cA hs z s u H locs → lv_has ls 10 [(0, .ref (hs t0)), (2, .int x2), (3, .int x3)] → rc_258 u t0 x2 x3 = some r0 → gw_Gv p l e gr_Model_listChoices s m args below meth c D cA hs z r0 H locs ls 258 []) (u : gw_St) (t0 : Nat) (x2 : Int32) (x3 : Int32) (o_t0 : gw_ok z t0 9) {H : Heap} {locs : List Loc} {ls : Array Slot} (hW : gw_Wx D cA hs z s u H locs) (hl : lv_has ls 10 [(0, .ref (hs t0)), (2, .int x2), (3, .int x3)]) (h : gf_Model_listChoices_b326 F z rc_258  u t0 x2 x3 = some r0) : gw_Gv p l e gr_Model_listChoices s m args below meth c D cA hs z r0 H locs ls 326 [] := by
  obtain ⟨hx, hb, hml, hown, hts, hK⟩ := id C
  unfold gf_Model_listChoices_b326 at h
  obtain ⟨a39, e40⟩ : ∃ y : Int32, y = x3 + 1 := ⟨_, rfl⟩
  have h := gf_nm_ok e40 h
  refine lv_iinc (v := a39) (lv' := [(3, .int a39), (0, .ref (hs t0)), (2, .int x2)]) hx hb gd_Model_listChoices_326 hl (k := 2) rfl (by rw [e40]; rfl) (by decide) rfl (fun ls hl => ?_)
  refine lv_goto (tgt := 258) hx hb gd_Model_listChoices_329 (by decide) ?_
  exact k_258 u t0 x2 a39 _ _ _ o_t0 hW (lv_sub hl [1, 2, 0] rfl) h

set_option maxHeartbeats 4000000 in
set_option maxRecDepth 20000 in
theorem gx_Model_listChoices_b287 {p : Program} {l : Launch} {e : Env} {s : State} {m : MethodId} {args : Array Value} {below : List Frame} {meth : Method} {c : Code} {D : va_G} {cA : Nat → ClassId} {hs : Nat → Nat} {z : gw_Sh} (F : Nat) {r0 : gw_St} (C : gw_Cx p s m args c gb_Model_listChoices 10 R_Model D cA) (hr : meth.sig.returnType = none) (hk : meth.locks = false) {rc_258 : gw_St → Nat → Int32 → Int32 → Option gw_St} (k_258 : ∀ (u : gw_St) (t0 : Nat) (x2 : Int32) (x3 : Int32) (H : Heap) (locs : List Loc) (ls : Array Slot), gw_ok z t0 9 → gw_Wx D cA hs z s u H locs → lv_has ls 10 [(0, .ref (hs t0)), (2, .int x2), (3, .int x3)] → rc_258 u t0 x2 x3 = some r0 → gw_Gv p l e gr_Model_listChoices s m args below meth c D cA hs z r0 H locs ls 258 []) (u : gw_St) (t0 : Nat) (x2 : Int32) (x3 : Int32) (o_t0 : gw_ok z t0 9) {H : Heap} {locs : List Loc} {ls : Array Slot} (hW : gw_Wx D cA hs z s u H locs) (hl : lv_has ls 10 [(0, .ref (hs t0)), (2, .int x2), (3, .int x3)]) (h : gf_Model_listChoices_b287 F z rc_258  u t0 x2 x3 = some r0) : gw_Gv p l e gr_Model_listChoices s m args below meth c D cA hs z r0 H locs ls 287 [] := by
  obtain ⟨hx, hb, hml, hown, hts, hK⟩ := id C
  unfold gf_Model_listChoices_b287 at h
  refine lv_aload_n hx hb gd_Model_listChoices_287 rfl (lv_at hl 0 rfl) ?_
  obtain ⟨q41, e42, h⟩ := gf_nn_ok h
  refine gw_getr (k := 10) (ty := 10) (ref := R_Model) C hW o_t0 (by decide) rfl gi_Model rfl (by decide) rfl rfl gk_408 gd_Model_listChoices_288 e42 ?_
  have o_q41 := hW.ref (d := 10) o_t0 e42 rfl
  refine lv_iload_n hx hb gd_Model_listChoices_291 rfl (lv_at hl 1 rfl) ?_
  refine lv_aload_n hx hb gd_Model_listChoices_292 rfl (lv_at hl 0 rfl) ?_
  obtain ⟨q43, e44, h⟩ := gf_nn_ok h
  refine gw_getr (k := 10) (ty := 10) (ref := R_Model) C hW o_t0 (by decide) rfl gi_Model rfl (by decide) rfl rfl gk_408 gd_Model_listChoices_293 e44 ?_
  have o_q43 := hW.ref (d := 10) o_t0 e44 rfl
  refine lv_iload_n hx hb gd_Model_listChoices_296 rfl (lv_at hl 2 rfl) ?_
  obtain ⟨g45, h⟩ := gf_if_ok h
  refine gw_iald C hW o_q43 g45 gd_Model_listChoices_297 ?_
  obtain ⟨g46, h⟩ := gf_if_ok h
  refine gw_iast C hW o_q41 g46 gd_Model_listChoices_298 (fun u47 H locs e48 hW => ?_)
  have h := gf_nm_ok e48 h
  refine lv_aload_n hx hb gd_Model_listChoices_299 rfl (lv_at hl 0 rfl) ?_
  obtain ⟨q49, e50, h⟩ := gf_nn_ok h
  refine gw_getr (k := 11) (ty := 10) (ref := R_Model) C hW o_t0 (by decide) rfl gi_Model rfl (by decide) rfl rfl gk_410 gd_Model_listChoices_300 e50 ?_
  have o_q49 := hW.ref (d := 10) o_t0 e50 rfl
  refine lv_iload_n hx hb gd_Model_listChoices_303 rfl (lv_at hl 1 rfl) ?_
  refine lv_aload_n hx hb gd_Model_listChoices_304 rfl (lv_at hl 0 rfl) ?_
  obtain ⟨q51, e52, h⟩ := gf_nn_ok h
  refine gw_getr (k := 11) (ty := 10) (ref := R_Model) C hW o_t0 (by decide) rfl gi_Model rfl (by decide) rfl rfl gk_410 gd_Model_listChoices_305 e52 ?_
  have o_q51 := hW.ref (d := 10) o_t0 e52 rfl
  refine lv_iload_n hx hb gd_Model_listChoices_308 rfl (lv_at hl 2 rfl) ?_
  obtain ⟨g53, h⟩ := gf_if_ok h
  refine gw_iald C hW o_q51 g53 gd_Model_listChoices_309 ?_
  obtain ⟨g54, h⟩ := gf_if_ok h
  refine gw_iast C hW o_q49 g54 gd_Model_listChoices_310 (fun u55 H locs e56 hW => ?_)
  have h := gf_nm_ok e56 h
  refine lv_aload_n hx hb gd_Model_listChoices_311 rfl (lv_at hl 0 rfl) ?_
  obtain ⟨q57, e58, h⟩ := gf_nn_ok h
  refine gw_getr (k := 12) (ty := 10) (ref := R_Model) C hW o_t0 (by decide) rfl gi_Model rfl (by decide) rfl rfl gk_409 gd_Model_listChoices_312 e58 ?_
  have o_q57 := hW.ref (d := 10) o_t0 e58 rfl
  refine lv_iload_n hx hb gd_Model_listChoices_315 rfl (lv_at hl 1 rfl) ?_
  refine lv_aload_n hx hb gd_Model_listChoices_316 rfl (lv_at hl 0 rfl) ?_
  obtain ⟨q59, e60, h⟩ := gf_nn_ok h
  refine gw_getr (k := 12) (ty := 10) (ref := R_Model) C hW o_t0 (by decide) rfl gi_Model rfl (by decide) rfl rfl gk_409 gd_Model_listChoices_317 e60 ?_
  have o_q59 := hW.ref (d := 10) o_t0 e60 rfl
  refine lv_iload_n hx hb gd_Model_listChoices_320 rfl (lv_at hl 2 rfl) ?_
  obtain ⟨g61, h⟩ := gf_if_ok h
  refine gw_iald C hW o_q59 g61 gd_Model_listChoices_321 ?_
  obtain ⟨g62, h⟩ := gf_if_ok h
  refine gw_iast C hW o_q57 g62 gd_Model_listChoices_322 (fun u63 H locs e64 hW => ?_)
  have h := gf_nm_ok e64 h
  obtain ⟨a65, e66⟩ : ∃ y : Int32, y = x2 + 1 := ⟨_, rfl⟩
  have h := gf_nm_ok e66 h
  refine lv_iinc (v := a65) (lv' := [(2, .int a65), (0, .ref (hs t0)), (3, .int x3)]) hx hb gd_Model_listChoices_323 hl (k := 1) rfl (by rw [e66]; rfl) (by decide) rfl (fun ls hl => ?_)
  exact gx_Model_listChoices_b326 F C hr hk k_258 u63 t0 a65 x3 o_t0 hW (lv_sub hl [1, 0, 2] rfl) h

set_option maxHeartbeats 4000000 in
set_option maxRecDepth 20000 in
theorem gx_Model_listChoices_S258 {p : Program} {l : Launch} {e : Env} {s : State} {m : MethodId} {args : Array Value} {below : List Frame} {meth : Method} {c : Code} {D : va_G} {cA : Nat → ClassId} {hs : Nat → Nat} {z : gw_Sh} (F : Nat) {r0 : gw_St} (C : gw_Cx p s m args c gb_Model_listChoices 10 R_Model D cA) (hr : meth.sig.returnType = none) (hk : meth.locks = false) {rc_258 : gw_St → Nat → Int32 → Int32 → Option gw_St} (k_258 : ∀ (u : gw_St) (t0 : Nat) (x2 : Int32) (x3 : Int32) (H : Heap) (locs : List Loc) (ls : Array Slot), gw_ok z t0 9 → gw_Wx D cA hs z s u H locs → lv_has ls 10 [(0, .ref (hs t0)), (2, .int x2), (3, .int x3)] → rc_258 u t0 x2 x3 = some r0 → gw_Gv p l e gr_Model_listChoices s m args below meth c D cA hs z r0 H locs ls 258 []) (u : gw_St) (t0 : Nat) (x2 : Int32) (x3 : Int32) (o_t0 : gw_ok z t0 9) {H : Heap} {locs : List Loc} {ls : Array Slot} (hW : gw_Wx D cA hs z s u H locs) (hl : lv_has ls 10 [(0, .ref (hs t0)), (2, .int x2), (3, .int x3)]) (h : gf_Model_listChoices_S258 F z  rc_258 u t0 x2 x3 = some r0) : gw_Gv p l e gr_Model_listChoices s m args below meth c D cA hs z r0 H locs ls 258 [] := by
  obtain ⟨hx, hb, hml, hown, hts, hK⟩ := id C
  unfold gf_Model_listChoices_S258 at h
  refine lv_iload_n hx hb gd_Model_listChoices_258 rfl (lv_at hl 2 rfl) ?_
  refine lv_aload_n hx hb gd_Model_listChoices_259 rfl (lv_at hl 0 rfl) ?_
  refine gw_geti (k := 9) (ref := R_Model) C hW o_t0 (by decide) rfl gi_Model rfl (by decide) rfl rfl gk_420 gd_Model_listChoices_260 ?_
  refine lv_icmp_ge (tgt := 332) hx hb gd_Model_listChoices_263 (by decide) (fun c67 => ?_) (fun c67 => ?_)
  · have h := gf_t c67 h
    refine lv_aload_n hx hb gd_Model_listChoices_332 rfl (lv_at hl 0 rfl) ?_
    refine lv_iload_n hx hb gd_Model_listChoices_333 rfl (lv_at hl 1 rfl) ?_
    refine gw_puti (k := 9) (ref := R_Model) (fty := .int) C hW o_t0 (by decide) rfl gi_Model rfl (by decide) rfl rfl gk_420 tf_Model tf_Model_ok nm_Model rfl rfl rfl rfl gd_Model_listChoices_334 (fun u68 H locs e69 hW => ?_)
    have h := gf_nm_ok e69 h
    obtain rfl := Option.some.inj h
    exact gw_vret C hW hr hk gd_Model_listChoices_337
  · have h := gf_f c67 h
    refine lv_iload_n hx hb gd_Model_listChoices_266 rfl (lv_at hl 1 rfl) ?_
    refine lv_if_eq (tgt := 287) hx hb gd_Model_listChoices_267 (by decide) (fun c70 => ?_) (fun c70 => ?_)
    · have h := gf_t c70 h
      exact gx_Model_listChoices_b287 F C hr hk k_258 u t0 x2 x3 o_t0 hW (lv_sub hl [0, 1, 2] rfl) h
    · have h := gf_f c70 h
      refine lv_aload_n hx hb gd_Model_listChoices_270 rfl (lv_at hl 0 rfl) ?_
      obtain ⟨q71, e72, h⟩ := gf_nn_ok h
      refine gw_getr (k := 10) (ty := 10) (ref := R_Model) C hW o_t0 (by decide) rfl gi_Model rfl (by decide) rfl rfl gk_408 gd_Model_listChoices_271 e72 ?_
      have o_q71 := hW.ref (d := 10) o_t0 e72 rfl
      refine lv_iload_n hx hb gd_Model_listChoices_274 rfl (lv_at hl 1 rfl) ?_
      refine lv_iconst (v := 1) hx hb gd_Model_listChoices_275 (by decide) ?_
      refine lv_isub hx hb gd_Model_listChoices_276 ?_
      obtain ⟨g73, h⟩ := gf_if_ok h
      refine gw_iald C hW o_q71 g73 gd_Model_listChoices_277 ?_
      refine lv_aload_n hx hb gd_Model_listChoices_278 rfl (lv_at hl 0 rfl) ?_
      obtain ⟨q74, e75, h⟩ := gf_nn_ok h
      refine gw_getr (k := 10) (ty := 10) (ref := R_Model) C hW o_t0 (by decide) rfl gi_Model rfl (by decide) rfl rfl gk_408 gd_Model_listChoices_279 e75 ?_
      have o_q74 := hW.ref (d := 10) o_t0 e75 rfl
      refine lv_iload_n hx hb gd_Model_listChoices_282 rfl (lv_at hl 2 rfl) ?_
      obtain ⟨g76, h⟩ := gf_if_ok h
      refine gw_iald C hW o_q74 g76 gd_Model_listChoices_283 ?_
      refine lv_icmp_eq (tgt := 326) hx hb gd_Model_listChoices_284 (by decide) (fun c77 => ?_) (fun c77 => ?_)
      · have h := gf_t c77 h
        exact gx_Model_listChoices_b326 F C hr hk k_258 u t0 x2 x3 o_t0 hW (lv_sub hl [0, 1, 2] rfl) h
      · have h := gf_f c77 h
        exact gx_Model_listChoices_b287 F C hr hk k_258 u t0 x2 x3 o_t0 hW (lv_sub hl [0, 1, 2] rfl) h
set_option maxHeartbeats 4000000 in
set_option maxRecDepth 20000 in
theorem gx_Model_listChoices_L258 {p : Program} {l : Launch} {e : Env} {s : State} {m : MethodId} {args : Array Value} {below : List Frame} {meth : Method} {c : Code} {D : va_G} {cA : Nat → ClassId} {hs : Nat → Nat} {z : gw_Sh} (F : Nat) {r0 : gw_St} (C : gw_Cx p s m args c gb_Model_listChoices 10 R_Model D cA) (hr : meth.sig.returnType = none) (hk : meth.locks = false) : ∀ (n : Nat), ∀ (u : gw_St) (t0 : Nat) (x2 : Int32) (x3 : Int32) (H : Heap) (locs : List Loc) (ls : Array Slot), gw_ok z t0 9 → gw_Wx D cA hs z s u H locs → lv_has ls 10 [(0, .ref (hs t0)), (2, .int x2), (3, .int x3)] → gf_Model_listChoices_L258 F z  n u t0 x2 x3 = some r0 → gw_Gv p l e gr_Model_listChoices s m args below meth c D cA hs z r0 H locs ls 258 [] := by
  intro n
  induction n with
  | zero =>
    intro u t0 x2 x3 H locs ls o_t0 hW hl h
    cases h
  | succ n ih =>
    intro u t0 x2 x3 H locs ls o_t0 hW hl h
    exact gx_Model_listChoices_S258 F C hr hk  ih u t0 x2 x3 o_t0 hW hl h

set_option maxHeartbeats 4000000 in
set_option maxRecDepth 20000 in
theorem gx_Model_listChoices_S232 {p : Program} {l : Launch} {e : Env} {s : State} {m : MethodId} {args : Array Value} {below : List Frame} {meth : Method} {c : Code} {D : va_G} {cA : Nat → ClassId} {hs : Nat → Nat} {z : gw_Sh} (F : Nat) {r0 : gw_St} (C : gw_Cx p s m args c gb_Model_listChoices 10 R_Model D cA) (hr : meth.sig.returnType = none) (hk : meth.locks = false) {rc_232 : gw_St → Nat → Int32 → Option gw_St} (k_232 : ∀ (u : gw_St) (t0 : Nat) (x2 : Int32) (H : Heap) (locs : List Loc) (ls : Array Slot), gw_ok z t0 9 → gw_Wx D cA hs z s u H locs → lv_has ls 10 [(0, .ref (hs t0)), (2, .int x2)] → rc_232 u t0 x2 = some r0 → gw_Gv p l e gr_Model_listChoices s m args below meth c D cA hs z r0 H locs ls 232 []) (u : gw_St) (t0 : Nat) (x2 : Int32) (o_t0 : gw_ok z t0 9) {H : Heap} {locs : List Loc} {ls : Array Slot} (hW : gw_Wx D cA hs z s u H locs) (hl : lv_has ls 10 [(0, .ref (hs t0)), (2, .int x2)]) (h : gf_Model_listChoices_S232 F z  rc_232 u t0 x2 = some r0) : gw_Gv p l e gr_Model_listChoices s m args below meth c D cA hs z r0 H locs ls 232 [] := by
  obtain ⟨hx, hb, hml, hown, hts, hK⟩ := id C
  unfold gf_Model_listChoices_S232 at h
  refine lv_iload_n hx hb gd_Model_listChoices_232 rfl (lv_at hl 1 rfl) ?_
  refine lv_if_le (tgt := 254) hx hb gd_Model_listChoices_233 (by decide) (fun c78 => ?_) (fun c78 => ?_)
  · have h := gf_t c78 h
    refine lv_iconst (v := 0) hx hb gd_Model_listChoices_254 (by decide) ?_
    refine lv_istore_n (lv' := [(2, .int 0), (0, .ref (hs t0))]) hx hb gd_Model_listChoices_255 rfl hl (by decide) rfl (fun ls hl => ?_)
    refine lv_iconst (v := 0) hx hb gd_Model_listChoices_256 (by decide) ?_
    refine lv_istore_n (lv' := [(3, .int 0), (2, .int 0), (0, .ref (hs t0))]) hx hb gd_Model_listChoices_257 rfl hl (by decide) rfl (fun ls hl => ?_)
    exact gx_Model_listChoices_L258 F C hr hk  F u t0 0 0 _ _ _ o_t0 hW (lv_sub hl [2, 1, 0] rfl) h
  · have h := gf_f c78 h
    refine lv_aload_n hx hb gd_Model_listChoices_236 rfl (lv_at hl 0 rfl) ?_
    refine lv_iconst (v := 0) hx hb gd_Model_listChoices_237 (by decide) ?_
    refine lv_iload_n hx hb gd_Model_listChoices_238 rfl (lv_at hl 1 rfl) ?_
    obtain ⟨u79, d80, h⟩ := gf_bd_ok h
    refine gw_callVv (K := R_Model) (As := [.int (0 : Int32), .int x2]) (rest := []) C hW (fun _ h => Or.inr h) hl.1 gm_Model_swap (gc_Model_swap l F o_t0 d80 _) gk_416 gk_417 gk_418 o_t0 (by decide) rfl rfl rfl ⟨Nat.le_of_ble_eq_true rfl, Nat.le_of_ble_eq_true rfl⟩ ⟨Nat.zero_le _, Nat.zero_le _⟩ rfl rfl (Nat.le_of_ble_eq_true rfl) gd_Model_listChoices_239 (fun H locs hW => ?_)
    refine lv_aload_n hx hb gd_Model_listChoices_242 rfl (lv_at hl 0 rfl) ?_
    refine lv_iconst (v := 0) hx hb gd_Model_listChoices_243 (by decide) ?_
    refine lv_iload_n hx hb gd_Model_listChoices_244 rfl (lv_at hl 1 rfl) ?_
    obtain ⟨u81, d82, h⟩ := gf_bd_ok h
    refine gw_callVv (K := R_Model) (As := [.int (0 : Int32), .int x2]) (rest := []) C hW (fun _ h => Or.inr h) hl.1 gm_Model_sink (gc_Model_sink l F o_t0 d82 _) gk_424 gk_425 gk_426 o_t0 (by decide) rfl rfl rfl ⟨Nat.le_of_ble_eq_true rfl, Nat.le_of_ble_eq_true rfl⟩ ⟨Nat.zero_le _, Nat.zero_le _⟩ rfl rfl (Nat.le_of_ble_eq_true rfl) gd_Model_listChoices_245 (fun H locs hW => ?_)
    obtain ⟨a83, e84⟩ : ∃ y : Int32, y = x2 + (-1) := ⟨_, rfl⟩
    have h := gf_nm_ok e84 h
    refine lv_iinc (v := a83) (lv' := [(2, .int a83), (0, .ref (hs t0))]) hx hb gd_Model_listChoices_248 hl (k := 1) rfl (by rw [e84]; rfl) (by decide) rfl (fun ls hl => ?_)
    refine lv_goto (tgt := 232) hx hb gd_Model_listChoices_251 (by decide) ?_
    exact k_232 u81 t0 a83 _ _ _ o_t0 hW (lv_sub hl [1, 0] rfl) h
set_option maxHeartbeats 4000000 in
set_option maxRecDepth 20000 in
theorem gx_Model_listChoices_L232 {p : Program} {l : Launch} {e : Env} {s : State} {m : MethodId} {args : Array Value} {below : List Frame} {meth : Method} {c : Code} {D : va_G} {cA : Nat → ClassId} {hs : Nat → Nat} {z : gw_Sh} (F : Nat) {r0 : gw_St} (C : gw_Cx p s m args c gb_Model_listChoices 10 R_Model D cA) (hr : meth.sig.returnType = none) (hk : meth.locks = false) : ∀ (n : Nat), ∀ (u : gw_St) (t0 : Nat) (x2 : Int32) (H : Heap) (locs : List Loc) (ls : Array Slot), gw_ok z t0 9 → gw_Wx D cA hs z s u H locs → lv_has ls 10 [(0, .ref (hs t0)), (2, .int x2)] → gf_Model_listChoices_L232 F z  n u t0 x2 = some r0 → gw_Gv p l e gr_Model_listChoices s m args below meth c D cA hs z r0 H locs ls 232 [] := by
  intro n
  induction n with
  | zero =>
    intro u t0 x2 H locs ls o_t0 hW hl h
    cases h
  | succ n ih =>
    intro u t0 x2 H locs ls o_t0 hW hl h
    exact gx_Model_listChoices_S232 F C hr hk  ih u t0 x2 o_t0 hW hl h

set_option maxHeartbeats 4000000 in
set_option maxRecDepth 20000 in
theorem gx_Model_listChoices_S206 {p : Program} {l : Launch} {e : Env} {s : State} {m : MethodId} {args : Array Value} {below : List Frame} {meth : Method} {c : Code} {D : va_G} {cA : Nat → ClassId} {hs : Nat → Nat} {z : gw_Sh} (F : Nat) {r0 : gw_St} (C : gw_Cx p s m args c gb_Model_listChoices 10 R_Model D cA) (hr : meth.sig.returnType = none) (hk : meth.locks = false) {rc_206 : gw_St → Nat → Int32 → Option gw_St} (k_206 : ∀ (u : gw_St) (t0 : Nat) (x2 : Int32) (H : Heap) (locs : List Loc) (ls : Array Slot), gw_ok z t0 9 → gw_Wx D cA hs z s u H locs → lv_has ls 10 [(0, .ref (hs t0)), (2, .int x2)] → rc_206 u t0 x2 = some r0 → gw_Gv p l e gr_Model_listChoices s m args below meth c D cA hs z r0 H locs ls 206 []) (u : gw_St) (t0 : Nat) (x2 : Int32) (o_t0 : gw_ok z t0 9) {H : Heap} {locs : List Loc} {ls : Array Slot} (hW : gw_Wx D cA hs z s u H locs) (hl : lv_has ls 10 [(0, .ref (hs t0)), (2, .int x2)]) (h : gf_Model_listChoices_S206 F z  rc_206 u t0 x2 = some r0) : gw_Gv p l e gr_Model_listChoices s m args below meth c D cA hs z r0 H locs ls 206 [] := by
  obtain ⟨hx, hb, hml, hown, hts, hK⟩ := id C
  unfold gf_Model_listChoices_S206 at h
  refine lv_iload_n hx hb gd_Model_listChoices_206 rfl (lv_at hl 1 rfl) ?_
  refine lv_if_lt (tgt := 225) hx hb gd_Model_listChoices_207 (by decide) (fun c85 => ?_) (fun c85 => ?_)
  · have h := gf_t c85 h
    refine lv_aload_n hx hb gd_Model_listChoices_225 rfl (lv_at hl 0 rfl) ?_
    refine gw_geti (k := 9) (ref := R_Model) C hW o_t0 (by decide) rfl gi_Model rfl (by decide) rfl rfl gk_420 gd_Model_listChoices_226 ?_
    refine lv_iconst (v := 1) hx hb gd_Model_listChoices_229 (by decide) ?_
    refine lv_isub hx hb gd_Model_listChoices_230 ?_
    refine lv_topi (fun a86 e87 => ?_)
    have h := gf_nm_ok e87 h
    refine lv_istore_n (lv' := [(2, .int a86), (0, .ref (hs t0))]) hx hb gd_Model_listChoices_231 rfl hl (by decide) rfl (fun ls hl => ?_)
    exact gx_Model_listChoices_L232 F C hr hk  F u t0 a86 _ _ _ o_t0 hW (lv_sub hl [1, 0] rfl) h
  · have h := gf_f c85 h
    refine lv_aload_n hx hb gd_Model_listChoices_210 rfl (lv_at hl 0 rfl) ?_
    refine lv_iload_n hx hb gd_Model_listChoices_211 rfl (lv_at hl 1 rfl) ?_
    refine lv_aload_n hx hb gd_Model_listChoices_212 rfl (lv_at hl 0 rfl) ?_
    refine gw_geti (k := 9) (ref := R_Model) C hW o_t0 (by decide) rfl gi_Model rfl (by decide) rfl rfl gk_420 gd_Model_listChoices_213 ?_
    obtain ⟨u88, d89, h⟩ := gf_bd_ok h
    refine gw_callVv (K := R_Model) (As := [.int x2, .int (u.1 t0 9)]) (rest := []) C hW (fun _ h => Or.inr h) hl.1 gm_Model_sink (gc_Model_sink l F o_t0 d89 _) gk_424 gk_425 gk_426 o_t0 (by decide) rfl rfl rfl ⟨Nat.le_of_ble_eq_true rfl, Nat.le_of_ble_eq_true rfl⟩ ⟨Nat.zero_le _, Nat.zero_le _⟩ rfl rfl (Nat.le_of_ble_eq_true rfl) gd_Model_listChoices_216 (fun H locs hW => ?_)
    obtain ⟨a90, e91⟩ : ∃ y : Int32, y = x2 + (-1) := ⟨_, rfl⟩
    have h := gf_nm_ok e91 h
    refine lv_iinc (v := a90) (lv' := [(2, .int a90), (0, .ref (hs t0))]) hx hb gd_Model_listChoices_219 hl (k := 1) rfl (by rw [e91]; rfl) (by decide) rfl (fun ls hl => ?_)
    refine lv_goto (tgt := 206) hx hb gd_Model_listChoices_222 (by decide) ?_
    exact k_206 u88 t0 a90 _ _ _ o_t0 hW (lv_sub hl [1, 0] rfl) h
set_option maxHeartbeats 4000000 in
set_option maxRecDepth 20000 in
theorem gx_Model_listChoices_L206 {p : Program} {l : Launch} {e : Env} {s : State} {m : MethodId} {args : Array Value} {below : List Frame} {meth : Method} {c : Code} {D : va_G} {cA : Nat → ClassId} {hs : Nat → Nat} {z : gw_Sh} (F : Nat) {r0 : gw_St} (C : gw_Cx p s m args c gb_Model_listChoices 10 R_Model D cA) (hr : meth.sig.returnType = none) (hk : meth.locks = false) : ∀ (n : Nat), ∀ (u : gw_St) (t0 : Nat) (x2 : Int32) (H : Heap) (locs : List Loc) (ls : Array Slot), gw_ok z t0 9 → gw_Wx D cA hs z s u H locs → lv_has ls 10 [(0, .ref (hs t0)), (2, .int x2)] → gf_Model_listChoices_L206 F z  n u t0 x2 = some r0 → gw_Gv p l e gr_Model_listChoices s m args below meth c D cA hs z r0 H locs ls 206 [] := by
  intro n
  induction n with
  | zero =>
    intro u t0 x2 H locs ls o_t0 hW hl h
    cases h
  | succ n ih =>
    intro u t0 x2 H locs ls o_t0 hW hl h
    exact gx_Model_listChoices_S206 F C hr hk  ih u t0 x2 o_t0 hW hl h

set_option maxHeartbeats 4000000 in
set_option maxRecDepth 20000 in
theorem gx_Model_listChoices_S32 {p : Program} {l : Launch} {e : Env} {s : State} {m : MethodId} {args : Array Value} {below : List Frame} {meth : Method} {c : Code} {D : va_G} {cA : Nat → ClassId} {hs : Nat → Nat} {z : gw_Sh} (F : Nat) {r0 : gw_St} (C : gw_Cx p s m args c gb_Model_listChoices 10 R_Model D cA) (hr : meth.sig.returnType = none) (hk : meth.locks = false) {rc_32 : gw_St → Nat → Int32 → Int32 → Option gw_St} (k_32 : ∀ (u : gw_St) (t0 : Nat) (x1 : Int32) (x2 : Int32) (H : Heap) (locs : List Loc) (ls : Array Slot), gw_ok z t0 9 → gw_Wx D cA hs z s u H locs → lv_has ls 10 [(0, .ref (hs t0)), (1, .int x1), (2, .int x2)] → rc_32 u t0 x1 x2 = some r0 → gw_Gv p l e gr_Model_listChoices s m args below meth c D cA hs z r0 H locs ls 32 []) (u : gw_St) (t0 : Nat) (x1 : Int32) (x2 : Int32) (o_t0 : gw_ok z t0 9) {H : Heap} {locs : List Loc} {ls : Array Slot} (hW : gw_Wx D cA hs z s u H locs) (hl : lv_has ls 10 [(0, .ref (hs t0)), (1, .int x1), (2, .int x2)]) (h : gf_Model_listChoices_S32 F z  rc_32 u t0 x1 x2 = some r0) : gw_Gv p l e gr_Model_listChoices s m args below meth c D cA hs z r0 H locs ls 32 [] := by
  obtain ⟨hx, hb, hml, hown, hts, hK⟩ := id C
  unfold gf_Model_listChoices_S32 at h
  refine lv_iload_n hx hb gd_Model_listChoices_32 rfl (lv_at hl 2 rfl) ?_
  refine lv_iload_n hx hb gd_Model_listChoices_33 rfl (lv_at hl 1 rfl) ?_
  refine lv_icmp_ge (tgt := 197) hx hb gd_Model_listChoices_34 (by decide) (fun c92 => ?_) (fun c92 => ?_)
  · have h := gf_t c92 h
    refine lv_aload_n hx hb gd_Model_listChoices_197 rfl (lv_at hl 0 rfl) ?_
    refine gw_geti (k := 9) (ref := R_Model) C hW o_t0 (by decide) rfl gi_Model rfl (by decide) rfl rfl gk_420 gd_Model_listChoices_198 ?_
    refine lv_iconst (v := 2) hx hb gd_Model_listChoices_201 (by decide) ?_
    obtain ⟨g93, h⟩ := gf_if_ok h
    refine lv_idiv hx hb gd_Model_listChoices_202 g93 ?_
    refine lv_iconst (v := 1) hx hb gd_Model_listChoices_203 (by decide) ?_
    refine lv_isub hx hb gd_Model_listChoices_204 ?_
    refine lv_topi (fun a94 e95 => ?_)
    have h := gf_nm_ok e95 h
    refine lv_istore_n (lv' := [(2, .int a94), (0, .ref (hs t0)), (1, .int x1)]) hx hb gd_Model_listChoices_205 rfl hl (by decide) rfl (fun ls hl => ?_)
    exact gx_Model_listChoices_L206 F C hr hk  F u t0 a94 _ _ _ o_t0 hW (lv_sub hl [1, 0] rfl) h
  · have h := gf_f c92 h
    refine lv_iconst (v := 0) hx hb gd_Model_listChoices_37 (by decide) ?_
    refine lv_istore_n (lv' := [(3, .int 0), (0, .ref (hs t0)), (1, .int x1), (2, .int x2)]) hx hb gd_Model_listChoices_38 rfl hl (by decide) rfl (fun ls hl => ?_)
    refine lv_iconst (v := 1) hx hb gd_Model_listChoices_39 (by decide) ?_
    refine lv_istore (lv' := [(4, .int 1), (3, .int 0), (0, .ref (hs t0)), (1, .int x1), (2, .int x2)]) hx hb gd_Model_listChoices_40 hl (by decide) rfl (fun ls hl => ?_)
    refine lv_iload_n hx hb gd_Model_listChoices_42 rfl (lv_at hl 4 rfl) ?_
    refine lv_istore (lv' := [(5, .int x2), (4, .int 1), (3, .int 0), (0, .ref (hs t0)), (1, .int x1), (2, .int x2)]) hx hb gd_Model_listChoices_43 hl (by decide) rfl (fun ls hl => ?_)
    refine lv_aload_n hx hb gd_Model_listChoices_45 rfl (lv_at hl 3 rfl) ?_
    refine gw_geti (k := 6) (ref := R_Model) C hW o_t0 (by decide) rfl gi_Model rfl (by decide) rfl rfl gk_393 gd_Model_listChoices_46 ?_
    refine lv_topi (fun a96 e97 => ?_)
    have h := gf_nm_ok e97 h
    refine lv_istore (lv' := [(6, .int a96), (5, .int x2), (4, .int 1), (3, .int 0), (0, .ref (hs t0)), (1, .int x1), (2, .int x2)]) hx hb gd_Model_listChoices_49 hl (by decide) rfl (fun ls hl => ?_)
    refine lv_iconst (v := 1) hx hb gd_Model_listChoices_51 (by decide) ?_
    refine lv_istore (lv' := [(7, .int 1), (6, .int a96), (5, .int x2), (4, .int 1), (3, .int 0), (0, .ref (hs t0)), (1, .int x1), (2, .int x2)]) hx hb gd_Model_listChoices_52 hl (by decide) rfl (fun ls hl => ?_)
    refine lv_iconst (v := 0) hx hb gd_Model_listChoices_54 (by decide) ?_
    refine lv_istore (lv' := [(8, .int 0), (7, .int 1), (6, .int a96), (5, .int x2), (4, .int 1), (3, .int 0), (0, .ref (hs t0)), (1, .int x1), (2, .int x2)]) hx hb gd_Model_listChoices_55 hl (by decide) rfl (fun ls hl => ?_)
    exact gx_Model_listChoices_L57 F C hr hk k_32 F u t0 x1 x2 0 1 x2 a96 1 0 _ _ _ o_t0 hW (lv_sub hl [6, 7, 8, 5, 4, 3, 2, 1, 0] rfl) h
set_option maxHeartbeats 4000000 in
set_option maxRecDepth 20000 in
theorem gx_Model_listChoices_L32 {p : Program} {l : Launch} {e : Env} {s : State} {m : MethodId} {args : Array Value} {below : List Frame} {meth : Method} {c : Code} {D : va_G} {cA : Nat → ClassId} {hs : Nat → Nat} {z : gw_Sh} (F : Nat) {r0 : gw_St} (C : gw_Cx p s m args c gb_Model_listChoices 10 R_Model D cA) (hr : meth.sig.returnType = none) (hk : meth.locks = false) : ∀ (n : Nat), ∀ (u : gw_St) (t0 : Nat) (x1 : Int32) (x2 : Int32) (H : Heap) (locs : List Loc) (ls : Array Slot), gw_ok z t0 9 → gw_Wx D cA hs z s u H locs → lv_has ls 10 [(0, .ref (hs t0)), (1, .int x1), (2, .int x2)] → gf_Model_listChoices_L32 F z  n u t0 x1 x2 = some r0 → gw_Gv p l e gr_Model_listChoices s m args below meth c D cA hs z r0 H locs ls 32 [] := by
  intro n
  induction n with
  | zero =>
    intro u t0 x1 x2 H locs ls o_t0 hW hl h
    cases h
  | succ n ih =>
    intro u t0 x1 x2 H locs ls o_t0 hW hl h
    exact gx_Model_listChoices_S32 F C hr hk  ih u t0 x1 x2 o_t0 hW hl h

set_option maxHeartbeats 4000000 in
set_option maxRecDepth 20000 in
theorem gx_Model_listChoices_S9 {p : Program} {l : Launch} {e : Env} {s : State} {m : MethodId} {args : Array Value} {below : List Frame} {meth : Method} {c : Code} {D : va_G} {cA : Nat → ClassId} {hs : Nat → Nat} {z : gw_Sh} (F : Nat) {r0 : gw_St} (C : gw_Cx p s m args c gb_Model_listChoices 10 R_Model D cA) (hr : meth.sig.returnType = none) (hk : meth.locks = false) {rc_9 : gw_St → Nat → Int32 → Int32 → Option gw_St} (k_9 : ∀ (u : gw_St) (t0 : Nat) (x1 : Int32) (x2 : Int32) (H : Heap) (locs : List Loc) (ls : Array Slot), gw_ok z t0 9 → gw_Wx D cA hs z s u H locs → lv_has ls 10 [(0, .ref (hs t0)), (1, .int x1), (2, .int x2)] → rc_9 u t0 x1 x2 = some r0 → gw_Gv p l e gr_Model_listChoices s m args below meth c D cA hs z r0 H locs ls 9 []) (u : gw_St) (t0 : Nat) (x1 : Int32) (x2 : Int32) (o_t0 : gw_ok z t0 9) {H : Heap} {locs : List Loc} {ls : Array Slot} (hW : gw_Wx D cA hs z s u H locs) (hl : lv_has ls 10 [(0, .ref (hs t0)), (1, .int x1), (2, .int x2)]) (h : gf_Model_listChoices_S9 F z  rc_9 u t0 x1 x2 = some r0) : gw_Gv p l e gr_Model_listChoices s m args below meth c D cA hs z r0 H locs ls 9 [] := by
  obtain ⟨hx, hb, hml, hown, hts, hK⟩ := id C
  unfold gf_Model_listChoices_S9 at h
  refine lv_iload_n hx hb gd_Model_listChoices_9 rfl (lv_at hl 2 rfl) ?_
  refine lv_aload_n hx hb gd_Model_listChoices_10 rfl (lv_at hl 0 rfl) ?_
  refine gw_geti (k := 4) (ref := R_Model) C hW o_t0 (by decide) rfl gi_Model rfl (by decide) rfl rfl gk_391 gd_Model_listChoices_11 ?_
  refine lv_icmp_ge (tgt := 30) hx hb gd_Model_listChoices_14 (by decide) (fun c98 => ?_) (fun c98 => ?_)
  · have h := gf_t c98 h
    refine lv_iconst (v := 0) hx hb gd_Model_listChoices_30 (by decide) ?_
    refine lv_istore_n (lv' := [(2, .int 0), (0, .ref (hs t0)), (1, .int x1)]) hx hb gd_Model_listChoices_31 rfl hl (by decide) rfl (fun ls hl => ?_)
    exact gx_Model_listChoices_L32 F C hr hk  F u t0 x1 0 _ _ _ o_t0 hW (lv_sub hl [1, 2, 0] rfl) h
  · have h := gf_f c98 h
    refine lv_iload_n hx hb gd_Model_listChoices_17 rfl (lv_at hl 1 rfl) ?_
    refine lv_aload_n hx hb gd_Model_listChoices_18 rfl (lv_at hl 0 rfl) ?_
    refine gw_geti (k := 6) (ref := R_Model) C hW o_t0 (by decide) rfl gi_Model rfl (by decide) rfl rfl gk_393 gd_Model_listChoices_19 ?_
    refine lv_imul hx hb gd_Model_listChoices_22 ?_
    refine lv_topi (fun a99 e100 => ?_)
    have h := gf_nm_ok e100 h
    refine lv_istore_n (lv' := [(1, .int a99), (0, .ref (hs t0)), (2, .int x2)]) hx hb gd_Model_listChoices_23 rfl hl (by decide) rfl (fun ls hl => ?_)
    obtain ⟨a101, e102⟩ : ∃ y : Int32, y = x2 + 1 := ⟨_, rfl⟩
    have h := gf_nm_ok e102 h
    refine lv_iinc (v := a101) (lv' := [(2, .int a101), (1, .int a99), (0, .ref (hs t0))]) hx hb gd_Model_listChoices_24 hl (k := 2) rfl (by rw [e102]; rfl) (by decide) rfl (fun ls hl => ?_)
    refine lv_goto (tgt := 9) hx hb gd_Model_listChoices_27 (by decide) ?_
    exact k_9 u t0 a99 a101 _ _ _ o_t0 hW (lv_sub hl [2, 1, 0] rfl) h
set_option maxHeartbeats 4000000 in
set_option maxRecDepth 20000 in
theorem gx_Model_listChoices_L9 {p : Program} {l : Launch} {e : Env} {s : State} {m : MethodId} {args : Array Value} {below : List Frame} {meth : Method} {c : Code} {D : va_G} {cA : Nat → ClassId} {hs : Nat → Nat} {z : gw_Sh} (F : Nat) {r0 : gw_St} (C : gw_Cx p s m args c gb_Model_listChoices 10 R_Model D cA) (hr : meth.sig.returnType = none) (hk : meth.locks = false) : ∀ (n : Nat), ∀ (u : gw_St) (t0 : Nat) (x1 : Int32) (x2 : Int32) (H : Heap) (locs : List Loc) (ls : Array Slot), gw_ok z t0 9 → gw_Wx D cA hs z s u H locs → lv_has ls 10 [(0, .ref (hs t0)), (1, .int x1), (2, .int x2)] → gf_Model_listChoices_L9 F z  n u t0 x1 x2 = some r0 → gw_Gv p l e gr_Model_listChoices s m args below meth c D cA hs z r0 H locs ls 9 [] := by
  intro n
  induction n with
  | zero =>
    intro u t0 x1 x2 H locs ls o_t0 hW hl h
    cases h
  | succ n ih =>
    intro u t0 x1 x2 H locs ls o_t0 hW hl h
    exact gx_Model_listChoices_S9 F C hr hk  ih u t0 x1 x2 o_t0 hW hl h

set_option maxHeartbeats 4000000 in
set_option maxRecDepth 20000 in
theorem gx_Model_listChoices_b0 {p : Program} {l : Launch} {e : Env} {s : State} {m : MethodId} {args : Array Value} {below : List Frame} {meth : Method} {c : Code} {D : va_G} {cA : Nat → ClassId} {hs : Nat → Nat} {z : gw_Sh} (F : Nat) {r0 : gw_St} (C : gw_Cx p s m args c gb_Model_listChoices 10 R_Model D cA) (hr : meth.sig.returnType = none) (hk : meth.locks = false) (u : gw_St) (t0 : Nat) (o_t0 : gw_ok z t0 9) {H : Heap} {locs : List Loc} {ls : Array Slot} (hW : gw_Wx D cA hs z s u H locs) (hl : lv_has ls 10 [(0, .ref (hs t0))]) (h : gf_Model_listChoices_b0 F z   u t0 = some r0) : gw_Gv p l e gr_Model_listChoices s m args below meth c D cA hs z r0 H locs ls 0 [] := by
  obtain ⟨hx, hb, hml, hown, hts, hK⟩ := id C
  unfold gf_Model_listChoices_b0 at h
  refine lv_aload_n hx hb gd_Model_listChoices_0 rfl (lv_at hl 0 rfl) ?_
  refine lv_iconst (v := 0) hx hb gd_Model_listChoices_1 (by decide) ?_
  refine gw_puti (k := 9) (ref := R_Model) (fty := .int) C hW o_t0 (by decide) rfl gi_Model rfl (by decide) rfl rfl gk_420 tf_Model tf_Model_ok nm_Model rfl rfl rfl rfl gd_Model_listChoices_2 (fun u103 H locs e104 hW => ?_)
  have h := gf_nm_ok e104 h
  refine lv_iconst (v := 1) hx hb gd_Model_listChoices_5 (by decide) ?_
  refine lv_istore_n (lv' := [(1, .int 1), (0, .ref (hs t0))]) hx hb gd_Model_listChoices_6 rfl hl (by decide) rfl (fun ls hl => ?_)
  refine lv_iconst (v := 0) hx hb gd_Model_listChoices_7 (by decide) ?_
  refine lv_istore_n (lv' := [(2, .int 0), (1, .int 1), (0, .ref (hs t0))]) hx hb gd_Model_listChoices_8 rfl hl (by decide) rfl (fun ls hl => ?_)
  exact gx_Model_listChoices_L9 F C hr hk  F u103 t0 1 0 _ _ _ o_t0 hW (lv_sub hl [2, 1, 0] rfl) h

set_option maxRecDepth 20000 in
theorem gc_Model_listChoices (l : Launch) {D : va_G} {cA : Nat → ClassId} {hs : Nat → Nat} {z : gw_Sh} (F : Nat) {u : gw_St} {r0 : gw_St} {t0 : Nat} (o_t0 : gw_ok z t0 9) (h : gf_Model_listChoices F z u t0 = some r0) (sz : Nat) : gw_Mv l gy_Model_listChoices gb_Model_listChoices 10 none gr_Model_listChoices [.ref (hs t0)] D cA hs z u sz r0 := by
  refine gw_enter (by decide) (Nat.le_of_ble_eq_true rfl) ?_
  intro p e s m below meth c ls hsz C hW hr hk _ hl
  subst hsz
  exact gx_Model_listChoices_b0 F C hr hk u t0 o_t0 hW (lv_sub hl [0] rfl) h
