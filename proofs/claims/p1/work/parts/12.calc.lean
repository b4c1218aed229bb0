-- GearDesk$Fraction.isTooLarge()Z
theorem gk_54 : Cond.fieldLink R_Fraction 14 R_Fraction "top" "LGearDesk$Whole;" ∈ gt_T := gt_m1 (List.mem_of_getElem? (i := 200) rfl) rfl
theorem gk_55 : Cond.methodLink R_Fraction 23 gy_Whole_bits ∈ gt_T := gt_m5 (List.mem_of_getElem? (i := 168) rfl) rfl
theorem gk_56 : Cond.instanceMethod gy_Whole_bits ∈ gt_T := gt_m5 (List.mem_of_getElem? (i := 169) rfl) rfl
theorem gk_57 : Cond.selects R_Whole gy_Whole_bits gy_Whole_bits ∈ gt_T := gt_m5 (List.mem_of_getElem? (i := 170) rfl) rfl
theorem gk_58 : Cond.fieldLink R_Fraction 20 R_Fraction "bottom" "LGearDesk$Whole;" ∈ gt_T := gt_m1 (List.mem_of_getElem? (i := 205) rfl) rfl
theorem gk_59 : Cond.initialized R_Fraction ∈ gt_T := gt_m1 (List.mem_of_getElem? (i := 7) rfl) rfl
def gy_Fraction_isTooLarge : MethodName := ⟨R_Fraction, "isTooLarge", "()Z"⟩
abbrev gb_Fraction_isTooLarge : ByteArray := prog_4_method_2_code
theorem gk_60 : Cond.code gy_Fraction_isTooLarge gb_Fraction_isTooLarge 1 (some .boolean) ∈ gt_T := gt_m5 (List.mem_of_getElem? (i := 167) rfl) rfl
def gr_Fraction_isTooLarge : Room := gw_rm 3 105
theorem gm_Fraction_isTooLarge : gw_Mth gy_Fraction_isTooLarge gb_Fraction_isTooLarge 1 (some .boolean) 0 := ⟨gk_60, gk_59, ⟨by decide +kernel, by decide +kernel⟩, by decide +kernel⟩
theorem gd_Fraction_isTooLarge_0 : decode gb_Fraction_isTooLarge 0 = .ok (.aload_n 0, 1) := by decide +kernel
theorem gd_Fraction_isTooLarge_1 : decode gb_Fraction_isTooLarge 1 = .ok (.getfield 14, 3) := by decide +kernel
theorem gd_Fraction_isTooLarge_4 : decode gb_Fraction_isTooLarge 4 = .ok (.invokevirtual 23, 3) := by decide +kernel
theorem gd_Fraction_isTooLarge_7 : decode gb_Fraction_isTooLarge 7 = .ok (.sipush 256, 3) := by decide +kernel
theorem gd_Fraction_isTooLarge_10 : decode gb_Fraction_isTooLarge 10 = .ok (.if_icmp .gt 16, 3) := by decide +kernel
theorem gd_Fraction_isTooLarge_13 : decode gb_Fraction_isTooLarge 13 = .ok (.aload_n 0, 1) := by decide +kernel
theorem gd_Fraction_isTooLarge_14 : decode gb_Fraction_isTooLarge 14 = .ok (.getfield 20, 3) := by decide +kernel
theorem gd_Fraction_isTooLarge_17 : decode gb_Fraction_isTooLarge 17 = .ok (.invokevirtual 23, 3) := by decide +kernel
theorem gd_Fraction_isTooLarge_20 : decode gb_Fraction_isTooLarge 20 = .ok (.sipush 256, 3) := by decide +kernel
theorem gd_Fraction_isTooLarge_23 : decode gb_Fraction_isTooLarge 23 = .ok (.if_icmp .le 7, 3) := by decide +kernel
theorem gd_Fraction_isTooLarge_26 : decode gb_Fraction_isTooLarge 26 = .ok (.iconst 1, 1) := by decide +kernel
theorem gd_Fraction_isTooLarge_27 : decode gb_Fraction_isTooLarge 27 = .ok (.goto 4, 3) := by decide +kernel
theorem gd_Fraction_isTooLarge_30 : decode gb_Fraction_isTooLarge 30 = .ok (.iconst 0, 1) := by decide +kernel
theorem gd_Fraction_isTooLarge_31 : decode gb_Fraction_isTooLarge 31 = .ok (.ireturn, 1) := by decide +kernel
def gf_Fraction_isTooLarge_b31 (F : Nat) (z : gw_Sh)  (u : gw_St) (sx0 : Int32) : Option (Int32 × gw_St) :=
  if ¬ (sx0 &&& 1 = sx0) then none else some (sx0, u)
def gf_Fraction_isTooLarge_b26 (F : Nat) (z : gw_Sh)  (u : gw_St)  : Option (Int32 × gw_St) :=
  gf_Fraction_isTooLarge_b31 F z  u 1
def gf_Fraction_isTooLarge_b0 (F : Nat) (z : gw_Sh)  (u : gw_St) (t0 : Nat) : Option (Int32 × gw_St) :=
  gf_nn (u.2.2 t0 0) fun q2 => gf_cl (gf_Whole_bits F z u q2) fun a6 u4 => if (256 : Int32) < a6 then (gf_Fraction_isTooLarge_b26 F z  u4 ) else (gf_nn (u4.2.2 t0 1) fun q8 => gf_cl (gf_Whole_bits F z u4 q8) fun a12 u10 => if a12 ≤ (256 : Int32) then (gf_Fraction_isTooLarge_b31 F z  u10 0) else (gf_Fraction_isTooLarge_b26 F z  u10 ))
def gf_Fraction_isTooLarge (F : Nat) (z : gw_Sh) (u : gw_St) (t0 : Nat) : Option (Int32 × gw_St) := gf_Fraction_isTooLarge_b0 F z  u t0
set_option maxHeartbeats 4000000 in
set_option maxRecDepth 20000 in
theorem gx_Fraction_isTooLarge_b31 {p : Program} {l : Launch} {e : Env} {s : State} {m : MethodId} {args : Array Value} {below : List Frame} {meth : Method} {c : Code} {D : va_G} {cA : Nat → ClassId} {hs : Nat → Nat} {z : gw_Sh} (F : Nat) {r0 : (Int32 × gw_St)} (C : gw_Cx p s m args c gb_Fraction_isTooLarge 1 R_Fraction D cA) (hr : meth.sig.returnType = (some .boolean)) (hk : meth.locks = false) (u : gw_St) (sx0 : Int32)  {H : Heap} {locs : List Loc} {ls : Array Slot} (hW : gw_Wx D cA hs z s u H locs) (hl : lv_has ls 1 []) (h : gf_Fraction_isTooLarge_b31 F z   u sx0 = some r0) : gw_Gi p l e gr_Fraction_isTooLarge s m args below meth c D cA hs z r0 H locs ls 31 [.int sx0] := by
  obtain ⟨hx, hb, hml, hown, hts, hK⟩ := id C
  unfold gf_Fraction_isTooLarge_b31 at h
  obtain ⟨g1, h⟩ := gf_if_ok h
  obtain rfl := Option.some.inj h
  exact gw_zret C hW hr (Decidable.not_not.mp g1) hk gd_Fraction_isTooLarge_31

set_option maxHeartbeats 4000000 in
set_option maxRecDepth 20000 in
theorem gx_Fraction_isTooLarge_b26 {p : Program} {l : Launch} {e : Env} {s : State} {m : MethodId} {args : Array Value} {below : List Frame} {meth : Method} {c : Code} {D : va_G} {cA : Nat → ClassId} {hs : Nat → Nat} {z : gw_Sh} (F : Nat) {r0 : (Int32 × gw_St)} (C : gw_Cx p s m args c gb_Fraction_isTooLarge 1 R_Fraction D cA) (hr : meth.sig.returnType = (some .boolean)) (hk : meth.locks = false) (u : gw_St)   {H : Heap} {locs : List Loc} {ls : Array Slot} (hW : gw_Wx D cA hs z s u H locs) (hl : lv_has ls 1 []) (h : gf_Fraction_isTooLarge_b26 F z   u  = some r0) : gw_Gi p l e gr_Fraction_isTooLarge s m args below meth c D cA hs z r0 H locs ls 26 [] := by
  obtain ⟨hx, hb, hml, hown, hts, hK⟩ := id C
  unfold gf_Fraction_isTooLarge_b26 at h
  refine lv_iconst (v := 1) hx hb gd_Fraction_isTooLarge_26 (by decide) ?_
  refine lv_goto (tgt := 31) hx hb gd_Fraction_isTooLarge_27 (by decide) ?_
  exact gx_Fraction_isTooLarge_b31 F C hr hk  u 1  hW (lv_sub hl [] rfl) h

set_option maxHeartbeats 4000000 in
set_option maxRecDepth 20000 in
theorem gx_Fraction_isTooLarge_b0 {p : Program} {l : Launch} {e : Env} {s : State} {m : MethodId} {args : Array Value} {below : List Frame} {meth : Method} {c : Code} {D : va_G} {cA : Nat → ClassId} {hs : Nat → Nat} {z : gw_Sh} (F : Nat) {r0 : (Int32 × gw_St)} (C : gw_Cx p s m args c gb_Fraction_isTooLarge 1 R_Fraction D cA) (hr : meth.sig.returnType = (some .boolean)) (hk : meth.locks = false) (u : gw_St) (t0 : Nat) (o_t0 : gw_ok z t0 6) {H : Heap} {locs : List Loc} {ls : Array Slot} (hW : gw_Wx D cA hs z s u H locs) (hl : lv_has ls 1 [(0, .ref (hs t0))]) (h : gf_Fraction_isTooLarge_b0 F z   u t0 = some r0) : gw_Gi p l e gr_Fraction_isTooLarge s m args below meth c D cA hs z r0 H locs ls 0 [] := by
  obtain ⟨hx, hb, hml, hown, hts, hK⟩ := id C
  unfold gf_Fraction_isTooLarge_b0 at h
  refine lv_aload_n hx hb gd_Fraction_isTooLarge_0 rfl (lv_at hl 0 rfl) ?_
  obtain ⟨q2, e3, h⟩ := gf_nn_ok h
  refine gw_getr (k := 0) (ty := 8) (ref := R_Fraction) C hW o_t0 (by decide) rfl gi_Fraction rfl (by decide) rfl rfl gk_54 gd_Fraction_isTooLarge_1 e3 ?_
  have o_q2 := hW.ref (d := 8) o_t0 e3 rfl
  obtain ⟨a6, u4, d5, h⟩ := gf_cl_ok h
  refine gw_callVi (K := R_Whole) (As := []) (rest := []) C hW (fun _ h => Or.inr h) hl.1 gm_Whole_bits (gc_Whole_bits l F o_q2 d5 _) gk_55 gk_56 gk_57 o_q2 (by decide) rfl rfl rfl ⟨Nat.le_of_ble_eq_true rfl, Nat.le_of_ble_eq_true rfl⟩ ⟨Nat.zero_le _, Nat.zero_le _⟩ rfl rfl (Nat.le_of_ble_eq_true rfl) gd_Fraction_isTooLarge_4 (fun H locs hW => ?_)
  refine lv_sipush (v := 256) hx hb gd_Fraction_isTooLarge_7 (by decide) ?_
  refine lv_icmp_gt (tgt := 26) hx hb gd_Fraction_isTooLarge_10 (by decide) (fun c7 => ?_) (fun c7 => ?_)
  · have h := gf_t c7 h
    exact gx_Fraction_isTooLarge_b26 F C hr hk  u4   hW (lv_sub hl [] rfl) h
  · have h := gf_f c7 h
    refine lv_aload_n hx hb gd_Fraction_isTooLarge_13 rfl (lv_at hl 0 rfl) ?_
    obtain ⟨q8, e9, h⟩ := gf_nn_ok h
    refine gw_getr (k := 1) (ty := 8) (ref := R_Fraction) C hW o_t0 (by decide) rfl gi_Fraction rfl (by decide) rfl rfl gk_58 gd_Fraction_isTooLarge_14 e9 ?_
    have o_q8 := hW.ref (d := 8) o_t0 e9 rfl
    obtain ⟨a12, u10, d11, h⟩ := gf_cl_ok h
    refine gw_callVi (K := R_Whole) (As := []) (rest := []) C hW (fun _ h => Or.inr h) hl.1 gm_Whole_bits (gc_Whole_bits l F o_q8 d11 _) gk_55 gk_56 gk_57 o_q8 (by decide) rfl rfl rfl ⟨Nat.le_of_ble_eq_true rfl, Nat.le_of_ble_eq_true rfl⟩ ⟨Nat.zero_le _, Nat.zero_le _⟩ rfl rfl (Nat.le_of_ble_eq_true rfl) gd_Fraction_isTooLarge_17 (fun H locs hW => ?_)
    refine lv_sipush (v := 256) hx hb gd_Fraction_isTooLarge_20 (by decide) ?_
    refine lv_icmp_le (tgt := 30) hx hb gd_Fraction_isTooLarge_23 (by decide) (fun c13 => ?_) (fun c13 => ?_)
    · have h := gf_t c13 h
      refine lv_iconst (v := 0) hx hb gd_Fraction_isTooLarge_30 (by decide) ?_
      exact gx_Fraction_isTooLarge_b31 F C hr hk  u10 0  hW (lv_sub hl [] rfl) h
    · have h := gf_f c13 h
      exact gx_Fraction_isTooLarge_b26 F C hr hk  u10   hW (lv_sub hl [] rfl) h

set_option maxRecDepth 20000 in
theorem gc_Fraction_isTooLarge (l : Launch) {D : va_G} {cA : Nat → ClassId} {hs : Nat → Nat} {z : gw_Sh} (F : Nat) {u : gw_St} {r0 : (Int32 × gw_St)} {t0 : Nat} (o_t0 : gw_ok z t0 6) (h : gf_Fraction_isTooLarge F z u t0 = some r0) (sz : Nat) : gw_Mi l gy_Fraction_isTooLarge gb_Fraction_isTooLarge 1 (some .boolean) gr_Fraction_isTooLarge [.ref (hs t0)] D cA hs z u sz r0 := by
  refine gw_enter (by decide) (Nat.le_of_ble_eq_true rfl) ?_
  intro p e s m below meth c ls hsz C hW hr hk _ hl
  subst hsz
  exact gx_Fraction_isTooLarge_b0 F C hr hk u t0 o_t0 hW (lv_sub hl [0] rfl) h
-- GearDesk$Fraction.copyFrom(LGearDesk$Fraction;)V
theorem gk_61 : Cond.methodLink R_Fraction 27 gy_Whole_copyFrom ∈ gt_T := gt_m5 (List.mem_of_getElem? (i := 177) rfl) rfl
theorem gk_62 : Cond.instanceMethod gy_Whole_copyFrom ∈ gt_T := gt_m5 (List.mem_of_getElem? (i := 110) rfl) rfl
theorem gk_63 : Cond.selects R_Whole gy_Whole_copyFrom gy_Whole_copyFrom ∈ gt_T := gt_m5 (List.mem_of_getElem? (i := 111) rfl) rfl
def gy_Fraction_copyFrom : MethodName := ⟨R_Fraction, "copyFrom", "(LGearDesk$Fraction;)V"⟩
abbrev gb_Fraction_copyFrom : ByteArray := prog_4_method_3_code
theorem gk_64 : Cond.code gy_Fraction_copyFrom gb_Fraction_copyFrom 2 none ∈ gt_T := gt_m5 (List.mem_of_getElem? (i := 176) rfl) rfl
def gr_Fraction_copyFrom : Room := gw_rm 2 85
theorem gm_Fraction_copyFrom : gw_Mth gy_Fraction_copyFrom gb_Fraction_copyFrom 2 none 1 := ⟨gk_64, gk_59, ⟨by decide +kernel, by decide +kernel⟩, by decide +kernel⟩
theorem gd_Fraction_copyFrom_0 : decode gb_Fraction_copyFrom 0 = .ok (.aload_n 0, 1) := by decide +kernel
theorem gd_Fraction_copyFrom_1 : decode gb_Fraction_copyFrom 1 = .ok (.getfield 14, 3) := by decide +kernel
theorem gd_Fraction_copyFrom_4 : decode gb_Fraction_copyFrom 4 = .ok (.aload_n 1, 1) := by decide +kernel
theorem gd_Fraction_copyFrom_5 : decode gb_Fraction_copyFrom 5 = .ok (.getfield 14, 3) := by decide +kernel
theorem gd_Fraction_copyFrom_8 : decode gb_Fraction_copyFrom 8 = .ok (.invokevirtual 27, 3) := by decide +kernel
theorem gd_Fraction_copyFrom_11 : decode gb_Fraction_copyFrom 11 = .ok (.aload_n 0, 1) := by decide +kernel
theorem gd_Fraction_copyFrom_12 : decode gb_Fraction_copyFrom 12 = .ok (.getfield 20, 3) := by decide +kernel
theorem gd_Fraction_copyFrom_15 : decode gb_Fraction_copyFrom 15 = .ok (.aload_n 1, 1) := by decide +kernel
theorem gd_Fraction_copyFrom_16 : decode gb_Fraction_copyFrom 16 = .ok (.getfield 20, 3) := by decide +kernel
theorem gd_Fraction_copyFrom_19 : decode gb_Fraction_copyFrom 19 = .ok (.invokevirtual 27, 3) := by decide +kernel
theorem gd_Fraction_copyFrom_22 : decode gb_Fraction_copyFrom 22 = .ok (.return_, 1) := by decide +kernel
def gf_Fraction_copyFrom_b0 (F : Nat) (z : gw_Sh)  (u : gw_St) (t0 : Nat) (t1 : Nat) : Option gw_St :=
  gf_nn (u.2.2 t0 0) fun q1 => gf_nn (u.2.2 t1 0) fun q3 => (gf_Whole_copyFrom F z u q1 q3).bind fun u5 => gf_nn (u5.2.2 t0 1) fun q7 => gf_nn (u5.2.2 t1 1) fun q9 => (gf_Whole_copyFrom F z u5 q7 q9).bind fun u11 => some u11
def gf_Fraction_copyFrom (F : Nat) (z : gw_Sh) (u : gw_St) (t0 : Nat) (t1 : Nat) : Option gw_St := gf_Fraction_copyFrom_b0 F z  u t0 t1
set_option maxHeartbeats 4000000 in
set_option maxRecDepth 20000 in
theorem gx_Fraction_copyFrom_b0 {p : Program} {l : Launch} {e : Env} {s : State} {m : MethodId} {args : Array Value} {below : List Frame} {meth : Method} {c : Code} {D : va_G} {cA : Nat → ClassId} {hs : Nat → Nat} {z : gw_Sh} (F : Nat) {r0 : gw_St} (C : gw_Cx p s m args c gb_Fraction_copyFrom 2 R_Fraction D cA) (hr : meth.sig.returnType = none) (hk : meth.locks = false) (u : gw_St) (t0 : Nat) (t1 : Nat) (o_t0 : gw_ok z t0 6) (o_t1 : gw_ok z t1 6) {H : Heap} {locs : List Loc} {ls : Array Slot} (hW : gw_Wx D cA hs z s u H locs) (hl : lv_has ls 2 [(0, .ref (hs t0)), (1, .ref (hs t1))]) (h : gf_Fraction_copyFrom_b0 F z   u t0 t1 = some r0) : gw_Gv p l e gr_Fraction_copyFrom s m args below meth c D cA hs z r0 H locs ls 0 [] := by
  obtain ⟨hx, hb, hml, hown, hts, hK⟩ := id C
  unfold gf_Fraction_copyFrom_b0 at h
  refine lv_aload_n hx hb gd_Fraction_copyFrom_0 rfl (lv_at hl 0 rfl) ?_
  obtain ⟨q1, e2, h⟩ := gf_nn_ok h
  refine gw_getr (k := 0) (ty := 8) (ref := R_Fraction) C hW o_t0 (by decide) rfl gi_Fraction rfl (by decide) rfl rfl gk_54 gd_Fraction_copyFrom_1 e2 ?_
  have o_q1 := hW.ref (d := 8) o_t0 e2 rfl
  refine lv_aload_n hx hb gd_Fraction_copyFrom_4 rfl (lv_at hl 1 rfl) ?_
  obtain ⟨q3, e4, h⟩ := gf_nn_ok h
  refine gw_getr (k := 0) (ty := 8) (ref := R_Fraction) C hW o_t1 (by decide) rfl gi_Fraction rfl (by decide) rfl rfl gk_54 gd_Fraction_copyFrom_5 e4 ?_
  have o_q3 := hW.ref (d := 8) o_t1 e4 rfl
  obtain ⟨u5, d6, h⟩ := gf_bd_ok h
  refine gw_callVv (K := R_Whole) (As := [.ref (hs q3)]) (rest := []) C hW (fun _ h => Or.inr h) hl.1 gm_Whole_copyFrom (gc_Whole_copyFrom l F o_q1 o_q3 d6 _) gk_61 gk_62 gk_63 o_q1 (by decide) rfl rfl rfl ⟨Nat.le_of_ble_eq_true rfl, Nat.le_of_ble_eq_true rfl⟩ ⟨Nat.zero_le _, Nat.zero_le _⟩ rfl rfl (Nat.le_of_ble_eq_true rfl) gd_Fraction_copyFrom_8 (fun H locs hW => ?_)
  refine lv_aload_n hx hb gd_Fraction_copyFrom_11 rfl (lv_at hl 0 rfl) ?_
  obtain ⟨q7, e8, h⟩ := gf_nn_ok h
  refine gw_getr (k := 1) (ty := 8) (ref := R_Fraction) C hW o_t0 (by decide) rfl gi_Fraction rfl (by decide) rfl rfl gk_58 gd_Fraction_copyFrom_12 e8 ?_
  have o_q7 := hW.ref (d := 8) o_t0 e8 rfl
  refine lv_aload_n hx hb gd_Fraction_copyFrom_15 rfl (lv_at hl 1 rfl) ?_
  obtain ⟨q9, e10, h⟩ := gf_nn_ok h
  refine gw_getr (k := 1) (ty := 8) (ref := R_Fraction) C hW o_t1 (by decide) rfl gi_Fraction rfl (by decide) rfl rfl gk_58 gd_Fraction_copyFrom_16 e10 ?_
  have o_q9 := hW.ref (d := 8) o_t1 e10 rfl
  obtain ⟨u11, d12, h⟩ := gf_bd_ok h
  refine gw_callVv (K := R_Whole) (As := [.ref (hs q9)]) (rest := []) C hW (fun _ h => Or.inr h) hl.1 gm_Whole_copyFrom (gc_Whole_copyFrom l F o_q7 o_q9 d12 _) gk_61 gk_62 gk_63 o_q7 (by decide) rfl rfl rfl ⟨Nat.le_of_ble_eq_true rfl, Nat.le_of_ble_eq_true rfl⟩ ⟨Nat.zero_le _, Nat.zero_le _⟩ rfl rfl (Nat.le_of_ble_eq_true rfl) gd_Fraction_copyFrom_19 (fun H locs hW => ?_)
  obtain rfl := Option.some.inj h
  exact gw_vret C hW hr hk gd_Fraction_copyFrom_22

set_option maxRecDepth 20000 in
theorem gc_Fraction_copyFrom (l : Launch) {D : va_G} {cA : Nat → ClassId} {hs : Nat → Nat} {z : gw_Sh} (F : Nat) {u : gw_St} {r0 : gw_St} {t0 : Nat} {t1 : Nat} (o_t0 : gw_ok z t0 6) (o_t1 : gw_ok z t1 6) (h : gf_Fraction_copyFrom F z u t0 t1 = some r0) (sz : Nat) : gw_Mv l gy_Fraction_copyFrom gb_Fraction_copyFrom 2 none gr_Fraction_copyFrom [.ref (hs t0), .ref (hs t1)] D cA hs z u sz r0 := by
  refine gw_enter (by decide) (Nat.le_of_ble_eq_true rfl) ?_
  intro p e s m below meth c ls hsz C hW hr hk _ hl
  subst hsz
  exact gx_Fraction_copyFrom_b0 F C hr hk u t0 t1 o_t0 o_t1 hW (lv_sub hl [0, 1] rfl) h
-- GearDesk$Calculator.guessTimes([I[III)J
theorem gk_65 : Cond.constantLong R_Calculator 98 2147483647 ∈ gt_T := gt_m5 (List.mem_of_getElem? (i := 125) rfl) rfl
theorem gk_66 : Cond.initialized R_Calculator ∈ gt_T := gt_m1 (List.mem_of_getElem? (i := 4) rfl) rfl
def gy_Calculator_guessTimes : MethodName := ⟨R_Calculator, "guessTimes", "([I[III)J"⟩
abbrev gb_Calculator_guessTimes : ByteArray := prog_2_method_5_code
theorem gk_67 : Cond.code gy_Calculator_guessTimes gb_Calculator_guessTimes 17 (some .long) ∈ gt_T := gt_m5 (List.mem_of_getElem? (i := 124) rfl) rfl
def gr_Calculator_guessTimes : Room := gw_rm 1 64
theorem gm_Calculator_guessTimes : gw_Mth gy_Calculator_guessTimes gb_Calculator_guessTimes 17 (some .long) 4 := ⟨gk_67, gk_66, ⟨by decide +kernel, by decide +kernel⟩, by decide +kernel⟩
theorem gd_Calculator_guessTimes_0 : decode gb_Calculator_guessTimes 0 = .ok (.aload_n 1, 1) := by decide +kernel
theorem gd_Calculator_guessTimes_1 : decode gb_Calculator_guessTimes 1 = .ok (.iload_n 3, 1) := by decide +kernel
theorem gd_Calculator_guessTimes_2 : decode gb_Calculator_guessTimes 2 = .ok (.iconst 1, 1) := by decide +kernel
theorem gd_Calculator_guessTimes_3 : decode gb_Calculator_guessTimes 3 = .ok (.isub, 1) := by decide +kernel
theorem gd_Calculator_guessTimes_4 : decode gb_Calculator_guessTimes 4 = .ok (.iaload, 1) := by decide +kernel
theorem gd_Calculator_guessTimes_5 : decode gb_Calculator_guessTimes 5 = .ok (.i2l, 1) := by decide +kernel
theorem gd_Calculator_guessTimes_6 : decode gb_Calculator_guessTimes 6 = .ok (.lstore 4, 2) := by decide +kernel
theorem gd_Calculator_guessTimes_8 : decode gb_Calculator_guessTimes 8 = .ok (.iload_n 3, 1) := by decide +kernel
theorem gd_Calculator_guessTimes_9 : decode gb_Calculator_guessTimes 9 = .ok (.iconst 1, 1) := by decide +kernel
theorem gd_Calculator_guessTimes_10 : decode gb_Calculator_guessTimes 10 = .ok (.if_icmp .le 12, 3) := by decide +kernel
theorem gd_Calculator_guessTimes_13 : decode gb_Calculator_guessTimes 13 = .ok (.aload_n 1, 1) := by decide +kernel
theorem gd_Calculator_guessTimes_14 : decode gb_Calculator_guessTimes 14 = .ok (.iload_n 3, 1) := by decide +kernel
theorem gd_Calculator_guessTimes_15 : decode gb_Calculator_guessTimes 15 = .ok (.iconst 2, 1) := by decide +kernel
theorem gd_Calculator_guessTimes_16 : decode gb_Calculator_guessTimes 16 = .ok (.isub, 1) := by decide +kernel
theorem gd_Calculator_guessTimes_17 : decode gb_Calculator_guessTimes 17 = .ok (.iaload, 1) := by decide +kernel
theorem gd_Calculator_guessTimes_18 : decode gb_Calculator_guessTimes 18 = .ok (.i2l, 1) := by decide +kernel
theorem gd_Calculator_guessTimes_19 : decode gb_Calculator_guessTimes 19 = .ok (.goto 4, 3) := by decide +kernel
theorem gd_Calculator_guessTimes_22 : decode gb_Calculator_guessTimes 22 = .ok (.lconst 0, 1) := by decide +kernel
theorem gd_Calculator_guessTimes_23 : decode gb_Calculator_guessTimes 23 = .ok (.lstore 6, 2) := by decide +kernel
theorem gd_Calculator_guessTimes_25 : decode gb_Calculator_guessTimes 25 = .ok (.iload_n 3, 1) := by decide +kernel
theorem gd_Calculator_guessTimes_26 : decode gb_Calculator_guessTimes 26 = .ok (.iconst 1, 1) := by decide +kernel
theorem gd_Calculator_guessTimes_27 : decode gb_Calculator_guessTimes 27 = .ok (.if_icmp .le 14, 3) := by decide +kernel
theorem gd_Calculator_guessTimes_30 : decode gb_Calculator_guessTimes 30 = .ok (.aload_n 0, 1) := by decide +kernel
theorem gd_Calculator_guessTimes_31 : decode gb_Calculator_guessTimes 31 = .ok (.iload_n 2, 1) := by decide +kernel
theorem gd_Calculator_guessTimes_32 : decode gb_Calculator_guessTimes 32 = .ok (.iload_n 3, 1) := by decide +kernel
theorem gd_Calculator_guessTimes_33 : decode gb_Calculator_guessTimes 33 = .ok (.iadd, 1) := by decide +kernel
theorem gd_Calculator_guessTimes_34 : decode gb_Calculator_guessTimes 34 = .ok (.iconst 2, 1) := by decide +kernel
theorem gd_Calculator_guessTimes_35 : decode gb_Calculator_guessTimes 35 = .ok (.isub, 1) := by decide +kernel
theorem gd_Calculator_guessTimes_36 : decode gb_Calculator_guessTimes 36 = .ok (.iaload, 1) := by decide +kernel
theorem gd_Calculator_guessTimes_37 : decode gb_Calculator_guessTimes 37 = .ok (.i2l, 1) := by decide +kernel
theorem gd_Calculator_guessTimes_38 : decode gb_Calculator_guessTimes 38 = .ok (.goto 4, 3) := by decide +kernel
theorem gd_Calculator_guessTimes_41 : decode gb_Calculator_guessTimes 41 = .ok (.lconst 0, 1) := by decide +kernel
theorem gd_Calculator_guessTimes_42 : decode gb_Calculator_guessTimes 42 = .ok (.lstore 8, 2) := by decide +kernel
theorem gd_Calculator_guessTimes_44 : decode gb_Calculator_guessTimes 44 = .ok (.aload_n 0, 1) := by decide +kernel
theorem gd_Calculator_guessTimes_45 : decode gb_Calculator_guessTimes 45 = .ok (.iload_n 2, 1) := by decide +kernel
theorem gd_Calculator_guessTimes_46 : decode gb_Calculator_guessTimes 46 = .ok (.iload_n 3, 1) := by decide +kernel
theorem gd_Calculator_guessTimes_47 : decode gb_Calculator_guessTimes 47 = .ok (.iadd, 1) := by decide +kernel
theorem gd_Calculator_guessTimes_48 : decode gb_Calculator_guessTimes 48 = .ok (.iaload, 1) := by decide +kernel
theorem gd_Calculator_guessTimes_49 : decode gb_Calculator_guessTimes 49 = .ok (.i2l, 1) := by decide +kernel
theorem gd_Calculator_guessTimes_50 : decode gb_Calculator_guessTimes 50 = .ok (.bipush 31, 2) := by decide +kernel
theorem gd_Calculator_guessTimes_52 : decode gb_Calculator_guessTimes 52 = .ok (.lshl, 1) := by decide +kernel
theorem gd_Calculator_guessTimes_53 : decode gb_Calculator_guessTimes 53 = .ok (.aload_n 0, 1) := by decide +kernel
theorem gd_Calculator_guessTimes_54 : decode gb_Calculator_guessTimes 54 = .ok (.iload_n 2, 1) := by decide +kernel
theorem gd_Calculator_guessTimes_55 : decode gb_Calculator_guessTimes 55 = .ok (.iload_n 3, 1) := by decide +kernel
theorem gd_Calculator_guessTimes_56 : decode gb_Calculator_guessTimes 56 = .ok (.iadd, 1) := by decide +kernel
theorem gd_Calculator_guessTimes_57 : decode gb_Calculator_guessTimes 57 = .ok (.iconst 1, 1) := by decide +kernel
theorem gd_Calculator_guessTimes_58 : decode gb_Calculator_guessTimes 58 = .ok (.isub, 1) := by decide +kernel
theorem gd_Calculator_guessTimes_59 : decode gb_Calculator_guessTimes 59 = .ok (.iaload, 1) := by decide +kernel
theorem gd_Calculator_guessTimes_60 : decode gb_Calculator_guessTimes 60 = .ok (.i2l, 1) := by decide +kernel
theorem gd_Calculator_guessTimes_61 : decode gb_Calculator_guessTimes 61 = .ok (.lor, 1) := by decide +kernel
theorem gd_Calculator_guessTimes_62 : decode gb_Calculator_guessTimes 62 = .ok (.lstore 10, 2) := by decide +kernel
theorem gd_Calculator_guessTimes_64 : decode gb_Calculator_guessTimes 64 = .ok (.lload 10, 2) := by decide +kernel
theorem gd_Calculator_guessTimes_66 : decode gb_Calculator_guessTimes 66 = .ok (.lload 4, 2) := by decide +kernel
theorem gd_Calculator_guessTimes_68 : decode gb_Calculator_guessTimes 68 = .ok (.ldiv, 1) := by decide +kernel
theorem gd_Calculator_guessTimes_69 : decode gb_Calculator_guessTimes 69 = .ok (.lstore 12, 2) := by decide +kernel
theorem gd_Calculator_guessTimes_71 : decode gb_Calculator_guessTimes 71 = .ok (.lload 10, 2) := by decide +kernel
theorem gd_Calculator_guessTimes_73 : decode gb_Calculator_guessTimes 73 = .ok (.lload 4, 2) := by decide +kernel
theorem gd_Calculator_guessTimes_75 : decode gb_Calculator_guessTimes 75 = .ok (.lrem, 1) := by decide +kernel
theorem gd_Calculator_guessTimes_76 : decode gb_Calculator_guessTimes 76 = .ok (.lstore 14, 2) := by decide +kernel
theorem gd_Calculator_guessTimes_78 : decode gb_Calculator_guessTimes 78 = .ok (.iconst 0, 1) := by decide +kernel
theorem gd_Calculator_guessTimes_79 : decode gb_Calculator_guessTimes 79 = .ok (.istore 16, 2) := by decide +kernel
theorem gd_Calculator_guessTimes_81 : decode gb_Calculator_guessTimes 81 = .ok (.iload 16, 2) := by decide +kernel
theorem gd_Calculator_guessTimes_83 : decode gb_Calculator_guessTimes 83 = .ok (.iconst 2, 1) := by decide +kernel
theorem gd_Calculator_guessTimes_84 : decode gb_Calculator_guessTimes 84 = .ok (.if_icmp .ge 57, 3) := by decide +kernel
theorem gd_Calculator_guessTimes_87 : decode gb_Calculator_guessTimes 87 = .ok (.lload 14, 2) := by decide +kernel
theorem gd_Calculator_guessTimes_89 : decode gb_Calculator_guessTimes 89 = .ok (.ldc2_w 98, 3) := by decide +kernel
theorem gd_Calculator_guessTimes_92 : decode gb_Calculator_guessTimes 92 = .ok (.lcmp, 1) := by decide +kernel
theorem gd_Calculator_guessTimes_93 : decode gb_Calculator_guessTimes 93 = .ok (.ifCond .gt 48, 3) := by decide +kernel
theorem gd_Calculator_guessTimes_96 : decode gb_Calculator_guessTimes 96 = .ok (.lload 12, 2) := by decide +kernel
theorem gd_Calculator_guessTimes_98 : decode gb_Calculator_guessTimes 98 = .ok (.ldc2_w 98, 3) := by decide +kernel
theorem gd_Calculator_guessTimes_101 : decode gb_Calculator_guessTimes 101 = .ok (.lcmp, 1) := by decide +kernel
theorem gd_Calculator_guessTimes_102 : decode gb_Calculator_guessTimes 102 = .ok (.ifCond .gt 20, 3) := by decide +kernel
theorem gd_Calculator_guessTimes_105 : decode gb_Calculator_guessTimes 105 = .ok (.lload 12, 2) := by decide +kernel
theorem gd_Calculator_guessTimes_107 : decode gb_Calculator_guessTimes 107 = .ok (.lload 6, 2) := by decide +kernel
theorem gd_Calculator_guessTimes_109 : decode gb_Calculator_guessTimes 109 = .ok (.lmul, 1) := by decide +kernel
theorem gd_Calculator_guessTimes_110 : decode gb_Calculator_guessTimes 110 = .ok (.lload 14, 2) := by decide +kernel
theorem gd_Calculator_guessTimes_112 : decode gb_Calculator_guessTimes 112 = .ok (.bipush 31, 2) := by decide +kernel
theorem gd_Calculator_guessTimes_114 : decode gb_Calculator_guessTimes 114 = .ok (.lshl, 1) := by decide +kernel
theorem gd_Calculator_guessTimes_115 : decode gb_Calculator_guessTimes 115 = .ok (.lload 8, 2) := by decide +kernel
theorem gd_Calculator_guessTimes_117 : decode gb_Calculator_guessTimes 117 = .ok (.lor, 1) := by decide +kernel
theorem gd_Calculator_guessTimes_118 : decode gb_Calculator_guessTimes 118 = .ok (.lcmp, 1) := by decide +kernel
theorem gd_Calculator_guessTimes_119 : decode gb_Calculator_guessTimes 119 = .ok (.ifCond .le 16, 3) := by decide +kernel
theorem gd_Calculator_guessTimes_122 : decode gb_Calculator_guessTimes 122 = .ok (.lload 12, 2) := by decide +kernel
theorem gd_Calculator_guessTimes_124 : decode gb_Calculator_guessTimes 124 = .ok (.lconst 1, 1) := by decide +kernel
theorem gd_Calculator_guessTimes_125 : decode gb_Calculator_guessTimes 125 = .ok (.lsub, 1) := by decide +kernel
theorem gd_Calculator_guessTimes_126 : decode gb_Calculator_guessTimes 126 = .ok (.lstore 12, 2) := by decide +kernel
theorem gd_Calculator_guessTimes_128 : decode gb_Calculator_guessTimes 128 = .ok (.lload 14, 2) := by decide +kernel
theorem gd_Calculator_guessTimes_130 : decode gb_Calculator_guessTimes 130 = .ok (.lload 4, 2) := by decide +kernel
theorem gd_Calculator_guessTimes_132 : decode gb_Calculator_guessTimes 132 = .ok (.ladd, 1) := by decide +kernel
theorem gd_Calculator_guessTimes_133 : decode gb_Calculator_guessTimes 133 = .ok (.lstore 14, 2) := by decide +kernel
theorem gd_Calculator_guessTimes_135 : decode gb_Calculator_guessTimes 135 = .ok (.iinc 16 1, 3) := by decide +kernel
theorem gd_Calculator_guessTimes_138 : decode gb_Calculator_guessTimes 138 = .ok (.goto (-57), 3) := by decide +kernel
theorem gd_Calculator_guessTimes_141 : decode gb_Calculator_guessTimes 141 = .ok (.lload 12, 2) := by decide +kernel
theorem gd_Calculator_guessTimes_143 : decode gb_Calculator_guessTimes 143 = .ok (.lreturn, 1) := by decide +kernel
def gf_Calculator_guessTimes_b141 (F : Nat) (z : gw_Sh)  (u : gw_St) (y12 : Int64) : Option (Int64 × gw_St) :=
  some (y12, u)
def gf_Calculator_guessTimes_b135 (F : Nat) (z : gw_Sh) (rc_81 : gw_St → Int64 → Int64 → Int64 → Int64 → Int64 → Int32 → Option (Int64 × gw_St)) (u : gw_St) (y4 : Int64) (y6 : Int64) (y8 : Int64) (y12 : Int64) (y14 : Int64) (x16 : Int32) : Option (Int64 × gw_St) :=
  gf_nm (x16 + 1) fun a1 => rc_81 u y4 y6 y8 y12 y14 a1
def gf_Calculator_guessTimes_b122 (F : Nat) (z : gw_Sh) (rc_81 : gw_St → Int64 → Int64 → Int64 → Int64 → Int64 → Int32 → Option (Int64 × gw_St)) (u : gw_St) (y4 : Int64) (y6 : Int64) (y8 : Int64) (y12 : Int64) (y14 : Int64) (x16 : Int32) : Option (Int64 × gw_St) :=
  gf_nm (y12 - (1 : Int64)) fun a3 => gf_nm (y14 + y4) fun a5 => gf_Calculator_guessTimes_b135 F z rc_81 u y4 y6 y8 a3 a5 x16
def gf_Calculator_guessTimes_S81 (F : Nat) (z : gw_Sh)  (rc_81 : gw_St → Int64 → Int64 → Int64 → Int64 → Int64 → Int32 → Option (Int64 × gw_St)) (u : gw_St) (y4 : Int64) (y6 : Int64) (y8 : Int64) (y12 : Int64) (y14 : Int64) (x16 : Int32) : Option (Int64 × gw_St) :=
  if (2 : Int32) ≤ x16 then (gf_Calculator_guessTimes_b141 F z  u y12) else (if 0 < (lg_cmp y14 (2147483647 : Int64)) then (gf_Calculator_guessTimes_b141 F z  u y12) else (if 0 < (lg_cmp y12 (2147483647 : Int64)) then (gf_Calculator_guessTimes_b122 F z rc_81 u y4 y6 y8 y12 y14 x16) else (if (lg_cmp (y12 * y6) ((y14 <<< (((31 : Int32)).toInt64 &&& 63)) ||| y8)) ≤ 0 then (gf_Calculator_guessTimes_b135 F z rc_81 u y4 y6 y8 y12 y14 x16) else (gf_Calculator_guessTimes_b122 F z rc_81 u y4 y6 y8 y12 y14 x16))))
def gf_Calculator_guessTimes_L81 (F : Nat) (z : gw_Sh)  : Nat → gw_St → Int64 → Int64 → Int64 → Int64 → Int64 → Int32 → Option (Int64 × gw_St)
  | 0 => fun _ _ _ _ _ _ _ => none
  | n + 1 => fun u y4 y6 y8 y12 y14 x16 => gf_Calculator_guessTimes_S81 F z  (gf_Calculator_guessTimes_L81 F z  n) u y4 y6 y8 y12 y14 x16
def gf_Calculator_guessTimes_b42 (F : Nat) (z : gw_Sh)  (u : gw_St) (t0 : Nat) (x2 : Int32) (x3 : Int32) (y4 : Int64) (y6 : Int64) (sy0 : Int64) : Option (Int64 × gw_St) :=
  if ((x2 + x3) < 0 ∨ z.2.2 t0 ≤ ((x2 + x3)).toNatClampNeg) then none else if (((x2 + x3) - (1 : Int32)) < 0 ∨ z.2.2 t0 ≤ (((x2 + x3) - (1 : Int32))).toNatClampNeg) then none else gf_nm (((((u.1 t0 ((x2 + x3)).toNatClampNeg)).toInt64) <<< (((31 : Int32)).toInt64 &&& 63)) ||| (((u.1 t0 (((x2 + x3) - (1 : Int32))).toNatClampNeg)).toInt64)) fun a13 => if y4 = 0 then none else gf_nm (a13 / y4) fun a16 => if y4 = 0 then none else gf_nm (a13 - a13 / y4 * y4) fun a19 => gf_Calculator_guessTimes_L81 F z  F u y4 y6 sy0 a16 a19 0
def gf_Calculator_guessTimes_b23 (F : Nat) (z : gw_Sh)  (u : gw_St) (t0 : Nat) (x2 : Int32) (x3 : Int32) (y4 : Int64) (sy0 : Int64) : Option (Int64 × gw_St) :=
  if x3 ≤ (1 : Int32) then (gf_Calculator_guessTimes_b42 F z  u t0 x2 x3 y4 sy0 0) else (if (((x2 + x3) - (2 : Int32)) < 0 ∨ z.2.2 t0 ≤ (((x2 + x3) - (2 : Int32))).toNatClampNeg) then none else gf_Calculator_guessTimes_b42 F z  u t0 x2 x3 y4 sy0 (((u.1 t0 (((x2 + x3) - (2 : Int32))).toNatClampNeg)).toInt64))
def gf_Calculator_guessTimes_b0 (F : Nat) (z : gw_Sh)  (u : gw_St) (t0 : Nat) (t1 : Nat) (x2 : Int32) (x3 : Int32) : Option (Int64 × gw_St) :=
  if ((x3 - (1 : Int32)) < 0 ∨ z.2.2 t1 ≤ ((x3 - (1 : Int32))).toNatClampNeg) then none else gf_nm (((u.1 t1 ((x3 - (1 : Int32))).toNatClampNeg)).toInt64) fun a24 => if x3 ≤ (1 : Int32) then (gf_Calculator_guessTimes_b23 F z  u t0 x2 x3 a24 0) else (if ((x3 - (2 : Int32)) < 0 ∨ z.2.2 t1 ≤ ((x3 - (2 : Int32))).toNatClampNeg) then none else gf_Calculator_guessTimes_b23 F z  u t0 x2 x3 a24 (((u.1 t1 ((x3 - (2 : Int32))).toNatClampNeg)).toInt64))
def gf_Calculator_guessTimes (F : Nat) (z : gw_Sh) (u : gw_St) (t0 : Nat) (t1 : Nat) (x2 : Int32) (x3 : Int32) : Option (Int64 × gw_St) := gf_Calculator_guessTimes_b0 F z  u t0 t1 x2 x3
set_option maxHeartbeats 4000000 in
set_option maxRecDepth 20000 in
theorem gx_Calculator_guessTimes_b141 {p : Program} {l : Launch} {e : Env} {s : State} {m : MethodId} {args : Array Value} {below : List Frame} {meth : Method} {c : Code} {D : va_G} {cA : Nat → ClassId} {hs : Nat → Nat} {z : gw_Sh} (F : Nat) {r0 : (Int64 × gw_St)} (C : gw_Cx p s m args c gb_Calculator_guessTimes 17 R_Calculator D cA) (hr : meth.sig.returnType = (some .long)) (hk : meth.locks = false) (u : gw_St) (y12 : Int64)  {H : Heap} {locs : List Loc} {ls : Array Slot} (hW : gw_Wx D cA hs z s u H locs) (hl : lv_has ls 17 [(12, .long y12)]) (h : gf_Calculator_guessTimes_b141 F z   u y12 = some r0) : gw_Gl p l e gr_Calculator_guessTimes s m args below meth c D cA hs z r0 H locs ls 141 [] := by
  obtain ⟨hx, hb, hml, hown, hts, hK⟩ := id C
  unfold gf_Calculator_guessTimes_b141 at h
  refine lv_lload hx hb gd_Calculator_guessTimes_141 (lv_at hl 0 rfl) ?_
  obtain rfl := Option.some.inj h
  exact gw_lret C hW hr hk gd_Calculator_guessTimes_143

set_option maxHeartbeats 4000000 in
set_option maxRecDepth 20000 in
theorem gx_Calculator_guessTimes_b135 {p : Program} {l : Launch} {e : Env} {s : State} {m : MethodId} {args : Array Value} {below : List Frame} {meth : Method} {c : Code} {D : va_G} {cA : Nat → ClassId} {hs : Nat → Nat} {z : gw_Sh} (F : Nat) {r0 : (Int64 × gw_St)} (C : gw_Cx p s m args c gb_Calculator_guessTimes 17 R_Calculator D cA) (hr : meth.sig.returnType = (some .long)) (hk : meth.locks = false) {rc_81 : gw_St → Int64 → Int64 → Int64 → Int64 → Int64 → Int32 → Option (Int64 × gw_St)} (k_81 : ∀ (u : gw_St) (y4 : Int64) (y6 : Int64) (y8 : Int64) (y12 : Int64) (y14 : Int64) (x16 : Int32) (H : Heap) (locs : List Loc) (ls : Array Slot), gw_Wx D cA hs z s u H locs → lv_has ls 17 [(4, .long y4), (6, .long y6), (8, .long y8), (12, .long y12), (14, .long y14), (16, .int x16)] → rc_81 u y4 y6 y8 y12 y14 x16 = some r0 → gw_Gl p l e gr_Calculator_guessTimes s m args below meth c D cA hs z r0 H locs ls 81 []) (u : gw_St) (y4 : Int64) (y6 : Int64) (y8 : Int64) (y12 : Int64) (y14 : Int64) (x16 : Int32)  {H : Heap} {locs : List Loc} {ls : Array Slot} (hW : gw_Wx D cA hs z s u H locs) (hl : lv_has ls 17 [(4, .long y4), (6, .long y6), (8, .long y8), (12, .long y12), (14, .long y14), (16, .int x16)]) (h : gf_Calculator_guessTimes_b135 F z rc_81  u y4 y6 y8 y12 y14 x16 = some r0) : gw_Gl p l e gr_Calculator_guessTimes s m args below meth c D cA hs z r0 H locs ls 135 [] := by
  obtain ⟨hx, hb, hml, hown, hts, hK⟩ := id C
  unfold gf_Calculator_guessTimes_b135 at h
  obtain ⟨a1, e2⟩ : ∃ y : Int32, y = x16 + 1 := ⟨_, rfl⟩
  have h := gf_nm_ok e2 h
  refine lv_iinc (v := a1) (lv' := [(16, .int a1), (4, .long y4), (6, .long y6), (8, .long y8), (12, .long y12), (14, .long y14)]) hx hb gd_Calculator_guessTimes_135 hl (k := 5) rfl (by rw [e2]; rfl) (by decide) rfl (fun ls hl => ?_)
  refine lv_goto (tgt := 81) hx hb gd_Calculator_guessTimes_138 (by decide) ?_
  exact k_81 u y4 y6 y8 y12 y14 a1 _ _ _  hW (lv_sub hl [1, 2, 3, 4, 5, 0] rfl) h

set_option maxHeartbeats 4000000 in
set_option maxRecDepth 20000 in
theorem gx_Calculator_guessTimes_b122 {p : Program} {l : Launch} {e : Env} {s : State} {m : MethodId} {args : Array Value} {below : List Frame} {meth : Method} {c : Code} {D : va_G} {cA : Nat → ClassId} {hs : Nat → Nat} {z : gw_Sh} (F : Nat) {r0 : (Int64 × gw_St)} (C : gw_Cx p s m args c gb_Calculator_guessTimes 17 R_Calculator D cA) (hr : meth.sig.returnType = (some .long)) (hk : meth.locks = false) {rc_81 : gw_St → Int64 → Int64 → Int64 → Int64 → Int64 → Int32 → Option (Int64 × gw_St)} (k_81 : ∀ (u : gw_St) (y4 : Int64) (y6 : Int64) (y8 : Int64) (y12 : Int64) (y14 : Int64) (x16 : Int32) (H : Heap) (locs : List Loc) (ls : Array Slot), gw_Wx D cA hs z s u H locs → lv_has ls 17 [(4, .long y4), (6, .long y6), (8, .long y8), (12, .long y12), (14, .long y14), (16, .int x16)] → rc_81 u y4 y6 y8 y12 y14 x16 = some r0 → gw_Gl p l e gr_Calculator_guessTimes s m args below meth c D cA hs z r0 H locs ls 81 []) (u : gw_St) (y4 : Int64) (y6 : Int64) (y8 : Int64) (y12 : Int64) (y14 : Int64) (x16 : Int32)  {H : Heap} {locs : List Loc} {ls : Array Slot} (hW : gw_Wx D cA hs z s u H locs) (hl : lv_has ls 17 [(4, .long y4), (6, .long y6), (8, .long y8), (12, .long y12), (14, .long y14), (16, .int x16)]) (h : gf_Calculator_guessTimes_b122 F z rc_81  u y4 y6 y8 y12 y14 x16 = some r0) : gw_Gl p l e gr_Calculator_guessTimes s m args below meth c D cA hs z r0 H locs ls 122 [] := by
  obtain ⟨hx, hb, hml, hown, hts, hK⟩ := id C
  unfold gf_Calculator_guessTimes_b122 at h
  refine lv_lload hx hb gd_Calculator_guessTimes_122 (lv_at hl 3 rfl) ?_
  refine lv_lconst (v := 1) hx hb gd_Calculator_guessTimes_124 (by decide) ?_
  refine lv_lsub hx hb gd_Calculator_guessTimes_125 ?_
  refine lv_topl (fun a3 e4 => ?_)
  have h := gf_nm_ok e4 h
  refine lv_lstore (lv' := [(12, .long a3), (4, .long y4), (6, .long y6), (8, .long y8), (14, .long y14), (16, .int x16)]) hx hb gd_Calculator_guessTimes_126 hl (by decide) rfl (fun ls hl => ?_)
  refine lv_lload hx hb gd_Calculator_guessTimes_128 (lv_at hl 4 rfl) ?_
  refine lv_lload hx hb gd_Calculator_guessTimes_130 (lv_at hl 1 rfl) ?_
  refine lv_ladd hx hb gd_Calculator_guessTimes_132 ?_
  refine lv_topl (fun a5 e6 => ?_)
  have h := gf_nm_ok e6 h
  refine lv_lstore (lv' := [(14, .long a5), (12, .long a3), (4, .long y4), (6, .long y6), (8, .long y8), (16, .int x16)]) hx hb gd_Calculator_guessTimes_133 hl (by decide) rfl (fun ls hl => ?_)
  exact gx_Calculator_guessTimes_b135 F C hr hk k_81 u y4 y6 y8 a3 a5 x16  hW (lv_sub hl [2, 3, 4, 1, 0, 5] rfl) h

set_option maxHeartbeats 4000000 in
set_option maxRecDepth 20000 in
theorem gx_Calculator_guessTimes_S81 {p : Program} {l : Launch} {e : Env} {s : State} {m : MethodId} {args : Array Value} {below : List Frame} {meth : Method} {c : Code} {D : va_G} {cA : Nat → ClassId} {hs : Nat → Nat} {z : gw_Sh} (F : Nat) {r0 : (Int64 × gw_St)} (C : gw_Cx p s m args c gb_Calculator_guessTimes 17 R_Calculator D cA) (hr : meth.sig.returnType = (some .long)) (hk : meth.locks = false) {rc_81 : gw_St → Int64 → Int64 → Int64 → Int64 → Int64 → Int32 → Option (Int64 × gw_St)} (k_81 : ∀ (u : gw_St) (y4 : Int64) (y6 : Int64) (y8 : Int64) (y12 : Int64) (y14 : Int64) (x16 : Int32) (H : Heap) (locs : List Loc) (ls : Array Slot), gw_Wx D cA hs z s u H locs → lv_has ls 17 [(4, .long y4), (6, .long y6), (8, .long y8), (12, .long y12), (14, .long y14), (16, .int x16)] → rc_81 u y4 y6 y8 y12 y14 x16 = some r0 → gw_Gl p l e gr_Calculator_guessTimes s m args below meth c D cA hs z r0 H locs ls 81 []) (u : gw_St) (y4 : Int64) (y6 : Int64) (y8 : Int64) (y12 : Int64) (y14 : Int64) (x16 : Int32)  {H : Heap} {locs : List Loc} {ls : Array Slot} (hW : gw_Wx D cA hs z s u H locs) (hl : lv_has ls 17 [(4, .long y4), (6, .long y6), (8, .long y8), (12, .long y12), (14, .long y14), (16, .int x16)]) (h : gf_Calculator_guessTimes_S81 F z  rc_81 u y4 y6 y8 y12 y14 x16 = some r0) : gw_Gl p l e gr_Calculator_guessTimes s m args below meth c D cA hs z r0 H locs ls 81 [] := by
  obtain ⟨hx, hb, hml, hown, hts, hK⟩ := id C
  unfold gf_Calculator_guessTimes_S81 at h
  refine lv_iload hx hb gd_Calculator_guessTimes_81 (lv_at hl 5 rfl) ?_
  refine lv_iconst (v := 2) hx hb gd_Calculator_guessTimes_83 (by decide) ?_
  refine lv_icmp_ge (tgt := 141) hx hb gd_Calculator_guessTimes_84 (by decide) (fun c7 => ?_) (fun c7 => ?_)
  · have h := gf_t c7 h
    exact gx_Calculator_guessTimes_b141 F C hr hk  u y12  hW (lv_sub hl [3] rfl) h
  · have h := gf_f c7 h
    refine lv_lload hx hb gd_Calculator_guessTimes_87 (lv_at hl 4 rfl) ?_
    refine lv_ldc2 (v := 2147483647) hx hb hown (hts _ gk_65) gd_Calculator_guessTimes_89 ?_
    refine W.lcmp hx hb gd_Calculator_guessTimes_92 ?_
    refine lv_if_gt (tgt := 141) hx hb gd_Calculator_guessTimes_93 (by decide) (fun c8 => ?_) (fun c8 => ?_)
    · have h := gf_t c8 h
      exact gx_Calculator_guessTimes_b141 F C hr hk  u y12  hW (lv_sub hl [3] rfl) h
    · have h := gf_f c8 h
      refine lv_lload hx hb gd_Calculator_guessTimes_96 (lv_at hl 3 rfl) ?_
      refine lv_ldc2 (v := 2147483647) hx hb hown (hts _ gk_65) gd_Calculator_guessTimes_98 ?_
      refine W.lcmp hx hb gd_Calculator_guessTimes_101 ?_
      refine lv_if_gt (tgt := 122) hx hb gd_Calculator_guessTimes_102 (by decide) (fun c9 => ?_) (fun c9 => ?_)
      · have h := gf_t c9 h
        exact gx_Calculator_guessTimes_b122 F C hr hk k_81 u y4 y6 y8 y12 y14 x16  hW (lv_sub hl [0, 1, 2, 3, 4, 5] rfl) h
      · have h := gf_f c9 h
        refine lv_lload hx hb gd_Calculator_guessTimes_105 (lv_at hl 3 rfl) ?_
        refine lv_lload hx hb gd_Calculator_guessTimes_107 (lv_at hl 1 rfl) ?_
        refine lv_lmul hx hb gd_Calculator_guessTimes_109 ?_
        refine lv_lload hx hb gd_Calculator_guessTimes_110 (lv_at hl 4 rfl) ?_
        refine lv_bipush (v := 31) hx hb gd_Calculator_guessTimes_112 (by decide) ?_
        refine lv_lshl hx hb gd_Calculator_guessTimes_114 rfl ?_
        refine lv_lload hx hb gd_Calculator_guessTimes_115 (lv_at hl 2 rfl) ?_
        refine lv_lor hx hb gd_Calculator_guessTimes_117 ?_
        refine W.lcmp hx hb gd_Calculator_guessTimes_118 ?_
        refine lv_if_le (tgt := 135) hx hb gd_Calculator_guessTimes_119 (by decide) (fun c10 => ?_) (fun c10 => ?_)
        · have h := gf_t c10 h
          exact gx_Calculator_guessTimes_b135 F C hr hk k_81 u y4 y6 y8 y12 y14 x16  hW (lv_sub hl [0, 1, 2, 3, 4, 5] rfl) h
        · have h := gf_f c10 h
          exact gx_Calculator_guessTimes_b122 F C hr hk k_81 u y4 y6 y8 y12 y14 x16  hW (lv_sub hl [0, 1, 2, 3, 4, 5] rfl) h
set_option maxHeartbeats 4000000 in
set_option maxRecDepth 20000 in
theorem gx_Calculator_guessTimes_L81 {p : Program} {l : Launch} {e : Env} {s : State} {m : MethodId} {args : Array Value} {below : List Frame} {meth : Method} {c : Code} {D : va_G} {cA : Nat → ClassId} {hs : Nat → Nat} {z : gw_Sh} (F : Nat) {r0 : (Int64 × gw_St)} (C : gw_Cx p s m args c gb_Calculator_guessTimes 17 R_Calculator D cA) (hr : meth.sig.returnType = (some .long)) (hk : meth.locks = false) : ∀ (n : Nat), ∀ (u : gw_St) (y4 : Int64) (y6 : Int64) (y8 : Int64) (y12 : Int64) (y14 : Int64) (x16 : Int32) (H : Heap) (locs : List Loc) (ls : Array Slot), gw_Wx D cA hs z s u H locs → lv_has ls 17 [(4, .long y4), (6, .long y6), (8, .long y8), (12, .long y12), (14, .long y14), (16, .int x16)] → gf_Calculator_guessTimes_L81 F z  n u y4 y6 y8 y12 y14 x16 = some r0 → gw_Gl p l e gr_Calculator_guessTimes s m args below meth c D cA hs z r0 H locs ls 81 [] := by
  intro n
  induction n with
  | zero =>
    intro u y4 y6 y8 y12 y14 x16 H locs ls  hW hl h
    cases h
  | succ n ih =>
    intro u y4 y6 y8 y12 y14 x16 H locs ls  hW hl h
    exact gx_Calculator_guessTimes_S81 F C hr hk  ih u y4 y6 y8 y12 y14 x16  hW hl h

set_option maxHeartbeats 4000000 in
set_option maxRecDepth 20000 in
theorem gx_Calculator_guessTimes_b42 {p : Program} {l : Launch} {e : Env} {s : State} {m : MethodId} {args : Array Value} {below : List Frame} {meth : Method} {c : Code} {D : va_G} {cA : Nat → ClassId} {hs : Nat → Nat} {z : gw_Sh} (F : Nat) {r0 : (Int64 × gw_St)} (C : gw_Cx p s m args c gb_Calculator_guessTimes 17 R_Calculator D cA) (hr : meth.sig.returnType = (some .long)) (hk : meth.locks = false) (u : gw_St) (t0 : Nat) (x2 : Int32) (x3 : Int32) (y4 : Int64) (y6 : Int64) (sy0 : Int64) (o_t0 : gw_ok z t0 10) {H : Heap} {locs : List Loc} {ls : Array Slot} (hW : gw_Wx D cA hs z s u H locs) (hl : lv_has ls 17 [(0, .ref (hs t0)), (2, .int x2), (3, .int x3), (4, .long y4), (6, .long y6)]) (h : gf_Calculator_guessTimes_b42 F z   u t0 x2 x3 y4 y6 sy0 = some r0) : gw_Gl p l e gr_Calculator_guessTimes s m args below meth c D cA hs z r0 H locs ls 42 [.long sy0] := by
  obtain ⟨hx, hb, hml, hown, hts, hK⟩ := id C
  unfold gf_Calculator_guessTimes_b42 at h
  refine lv_lstore (lv' := [(8, .long sy0), (0, .ref (hs t0)), (2, .int x2), (3, .int x3), (4, .long y4), (6, .long y6)]) hx hb gd_Calculator_guessTimes_42 hl (by decide) rfl (fun ls hl => ?_)
  refine lv_aload_n hx hb gd_Calculator_guessTimes_44 rfl (lv_at hl 1 rfl) ?_
  refine lv_iload_n hx hb gd_Calculator_guessTimes_45 rfl (lv_at hl 2 rfl) ?_
  refine lv_iload_n hx hb gd_Calculator_guessTimes_46 rfl (lv_at hl 3 rfl) ?_
  refine lv_iadd hx hb gd_Calculator_guessTimes_47 ?_
  obtain ⟨g11, h⟩ := gf_if_ok h
  refine gw_iald C hW o_t0 g11 gd_Calculator_guessTimes_48 ?_
  refine lv_i2l hx hb gd_Calculator_guessTimes_49 rfl ?_
  refine lv_bipush (v := 31) hx hb gd_Calculator_guessTimes_50 (by decide) ?_
  refine lv_lshl hx hb gd_Calculator_guessTimes_52 rfl ?_
  refine lv_aload_n hx hb gd_Calculator_guessTimes_53 rfl (lv_at hl 1 rfl) ?_
  refine lv_iload_n hx hb gd_Calculator_guessTimes_54 rfl (lv_at hl 2 rfl) ?_
  refine lv_iload_n hx hb gd_Calculator_guessTimes_55 rfl (lv_at hl 3 rfl) ?_
  refine lv_iadd hx hb gd_Calculator_guessTimes_56 ?_
  refine lv_iconst (v := 1) hx hb gd_Calculator_guessTimes_57 (by decide) ?_
  refine lv_isub hx hb gd_Calculator_guessTimes_58 ?_
  obtain ⟨g12, h⟩ := gf_if_ok h
  refine gw_iald C hW o_t0 g12 gd_Calculator_guessTimes_59 ?_
  refine lv_i2l hx hb gd_Calculator_guessTimes_60 rfl ?_
  refine lv_lor hx hb gd_Calculator_guessTimes_61 ?_
  refine lv_topl (fun a13 e14 => ?_)
  have h := gf_nm_ok e14 h
  refine lv_lstore (lv' := [(10, .long a13), (8, .long sy0), (0, .ref (hs t0)), (2, .int x2), (3, .int x3), (4, .long y4), (6, .long y6)]) hx hb gd_Calculator_guessTimes_62 hl (by decide) rfl (fun ls hl => ?_)
  refine lv_lload hx hb gd_Calculator_guessTimes_64 (lv_at hl 0 rfl) ?_
  refine lv_lload hx hb gd_Calculator_guessTimes_66 (lv_at hl 5 rfl) ?_
  obtain ⟨g15, h⟩ := gf_if_ok h
  refine lv_ldiv hx hb gd_Calculator_guessTimes_68 g15 ?_
  refine lv_topl (fun a16 e17 => ?_)
  have h := gf_nm_ok e17 h
  refine lv_lstore (lv' := [(12, .long a16), (10, .long a13), (8, .long sy0), (0, .ref (hs t0)), (2, .int x2), (3, .int x3), (4, .long y4), (6, .long y6)]) hx hb gd_Calculator_guessTimes_69 hl (by decide) rfl (fun ls hl => ?_)
  refine lv_lload hx hb gd_Calculator_guessTimes_71 (lv_at hl 1 rfl) ?_
  refine lv_lload hx hb gd_Calculator_guessTimes_73 (lv_at hl 6 rfl) ?_
  obtain ⟨g18, h⟩ := gf_if_ok h
  refine lv_lrem hx hb gd_Calculator_guessTimes_75 g18 ?_
  refine lv_topl (fun a19 e20 => ?_)
  have h := gf_nm_ok e20 h
  refine lv_lstore (lv' := [(14, .long a19), (12, .long a16), (10, .long a13), (8, .long sy0), (0, .ref (hs t0)), (2, .int x2), (3, .int x3), (4, .long y4), (6, .long y6)]) hx hb gd_Calculator_guessTimes_76 hl (by decide) rfl (fun ls hl => ?_)
  refine lv_iconst (v := 0) hx hb gd_Calculator_guessTimes_78 (by decide) ?_
  refine lv_istore (lv' := [(16, .int 0), (14, .long a19), (12, .long a16), (10, .long a13), (8, .long sy0), (0, .ref (hs t0)), (2, .int x2), (3, .int x3), (4, .long y4), (6, .long y6)]) hx hb gd_Calculator_guessTimes_79 hl (by decide) rfl (fun ls hl => ?_)
  exact gx_Calculator_guessTimes_L81 F C hr hk  F u y4 y6 sy0 a16 a19 0 _ _ _  hW (lv_sub hl [8, 9, 4, 2, 1, 0] rfl) h

set_option maxHeartbeats 4000000 in
set_option maxRecDepth 20000 in
theorem gx_Calculator_guessTimes_b23 {p : Program} {l : Launch} {e : Env} {s : State} {m : MethodId} {args : Array Value} {below : List Frame} {meth : Method} {c : Code} {D : va_G} {cA : Nat → ClassId} {hs : Nat → Nat} {z : gw_Sh} (F : Nat) {r0 : (Int64 × gw_St)} (C : gw_Cx p s m args c gb_Calculator_guessTimes 17 R_Calculator D cA) (hr : meth.sig.returnType = (some .long)) (hk : meth.locks = false) (u : gw_St) (t0 : Nat) (x2 : Int32) (x3 : Int32) (y4 : Int64) (sy0 : Int64) (o_t0 : gw_ok z t0 10) {H : Heap} {locs : List Loc} {ls : Array Slot} (hW : gw_Wx D cA hs z s u H locs) (hl : lv_has ls 17 [(0, .ref (hs t0)), (2, .int x2), (3, .int x3), (4, .long y4)]) (h : gf_Calculator_guessTimes_b23 F z   u t0 x2 x3 y4 sy0 = some r0) : gw_Gl p l e gr_Calculator_guessTimes s m args below meth c D cA hs z r0 H locs ls 23 [.long sy0] := by
  obtain ⟨hx, hb, hml, hown, hts, hK⟩ := id C
  unfold gf_Calculator_guessTimes_b23 at h
  refine lv_lstore (lv' := [(6, .long sy0), (0, .ref (hs t0)), (2, .int x2), (3, .int x3), (4, .long y4)]) hx hb gd_Calculator_guessTimes_23 hl (by decide) rfl (fun ls hl => ?_)
  refine lv_iload_n hx hb gd_Calculator_guessTimes_25 rfl (lv_at hl 3 rfl) ?_
  refine lv_iconst (v := 1) hx hb gd_Calculator_guessTimes_26 (by decide) ?_
  refine lv_icmp_le (tgt := 41) hx hb gd_Calculator_guessTimes_27 (by decide) (fun c21 => ?_) (fun c21 => ?_)
  · have h := gf_t c21 h
    refine lv_lconst (v := 0) hx hb gd_Calculator_guessTimes_41 (by decide) ?_
    exact gx_Calculator_guessTimes_b42 F C hr hk  u t0 x2 x3 y4 sy0 0 o_t0 hW (lv_sub hl [1, 2, 3, 4, 0] rfl) h
  · have h := gf_f c21 h
    refine lv_aload_n hx hb gd_Calculator_guessTimes_30 rfl (lv_at hl 1 rfl) ?_
    refine lv_iload_n hx hb gd_Calculator_guessTimes_31 rfl (lv_at hl 2 rfl) ?_
    refine lv_iload_n hx hb gd_Calculator_guessTimes_32 rfl (lv_at hl 3 rfl) ?_
    refine lv_iadd hx hb gd_Calculator_guessTimes_33 ?_
    refine lv_iconst (v := 2) hx hb gd_Calculator_guessTimes_34 (by decide) ?_
    refine lv_isub hx hb gd_Calculator_guessTimes_35 ?_
    obtain ⟨g22, h⟩ := gf_if_ok h
    refine gw_iald C hW o_t0 g22 gd_Calculator_guessTimes_36 ?_
    refine lv_i2l hx hb gd_Calculator_guessTimes_37 rfl ?_
    refine lv_goto (tgt := 42) hx hb gd_Calculator_guessTimes_38 (by decide) ?_
    exact gx_Calculator_guessTimes_b42 F C hr hk  u t0 x2 x3 y4 sy0 (((u.1 t0 (((x2 + x3) - (2 : Int32))).toNatClampNeg)).toInt64) o_t0 hW (lv_sub hl [1, 2, 3, 4, 0] rfl) h

set_option maxHeartbeats 4000000 in
set_option maxRecDepth 20000 in
theorem gx_Calculator_guessTimes_b0 {p : Program} {l : Launch} {e : Env} {s : State} {m : MethodId} {args : Array Value} {below : List Frame} {meth : Method} {c : Code} {D : va_G} {cA : Nat → ClassId} {hs : Nat → Nat} {z : gw_Sh} (F : Nat) {r0 : (Int64 × gw_St)} (C : gw_Cx p s m args c gb_Calculator_guessTimes 17 R_Calculator D cA) (hr : meth.sig.returnType = (some .long)) (hk : meth.locks = false) (u : gw_St) (t0 : Nat) (t1 : Nat) (x2 : Int32) (x3 : Int32) (o_t0 : gw_ok z t0 10) (o_t1 : gw_ok z t1 10) {H : Heap} {locs : List Loc} {ls : Array Slot} (hW : gw_Wx D cA hs z s u H locs) (hl : lv_has ls 17 [(0, .ref (hs t0)), (1, .ref (hs t1)), (2, .int x2), (3, .int x3)]) (h : gf_Calculator_guessTimes_b0 F z   u t0 t1 x2 x3 = some r0) : gw_Gl p l e gr_Calculator_guessTimes s m args below meth c D cA hs z r0 H locs ls 0 [] := by
  obtain ⟨hx, hb, hml, hown, hts, hK⟩ := id C
  unfold gf_Calculator_guessTimes_b0 at h
  refine lv_aload_n hx hb gd_Calculator_guessTimes_0 rfl (lv_at hl 1 rfl) ?_
  refine lv_iload_n hx hb gd_Calculator_guessTimes_1 rfl (lv_at hl 3 rfl) ?_
  refine lv_iconst (v := 1) hx hb gd_Calculator_guessTimes_2 (by decide) ?_
  refine lv_isub hx hb gd_Calculator_guessTimes_3 ?_
  obtain ⟨g23, h⟩ := gf_if_ok h
  refine gw_iald C hW o_t1 g23 gd_Calculator_guessTimes_4 ?_
  refine lv_i2l hx hb gd_Calculator_guessTimes_5 rfl ?_
  refine lv_topl (fun a24 e25 => ?_)
  have h := gf_nm_ok e25 h
  refine lv_lstore (lv' := [(4, .long a24), (0, .ref (hs t0)), (1, .ref (hs t1)), (2, .int x2), (3, .int x3)]) hx hb gd_Calculator_guessTimes_6 hl (by decide) rfl (fun ls hl => ?_)
  refine lv_iload_n hx hb gd_Calculator_guessTimes_8 rfl (lv_at hl 4 rfl) ?_
  refine lv_iconst (v := 1) hx hb gd_Calculator_guessTimes_9 (by decide) ?_
  refine lv_icmp_le (tgt := 22) hx hb gd_Calculator_guessTimes_10 (by decide) (fun c26 => ?_) (fun c26 => ?_)
  · have h := gf_t c26 h
    refine lv_lconst (v := 0) hx hb gd_Calculator_guessTimes_22 (by decide) ?_
    exact gx_Calculator_guessTimes_b23 F C hr hk  u t0 x2 x3 a24 0 o_t0 hW (lv_sub hl [1, 3, 4, 0] rfl) h
  · have h := gf_f c26 h
    refine lv_aload_n hx hb gd_Calculator_guessTimes_13 rfl (lv_at hl 2 rfl) ?_
    refine lv_iload_n hx hb gd_Calculator_guessTimes_14 rfl (lv_at hl 4 rfl) ?_
    refine lv_iconst (v := 2) hx hb gd_Calculator_guessTimes_15 (by decide) ?_
    refine lv_isub hx hb gd_Calculator_guessTimes_16 ?_
    obtain ⟨g27, h⟩ := gf_if_ok h
    refine gw_iald C hW o_t1 g27 gd_Calculator_guessTimes_17 ?_
    refine lv_i2l hx hb gd_Calculator_guessTimes_18 rfl ?_
    refine lv_goto (tgt := 23) hx hb gd_Calculator_guessTimes_19 (by decide) ?_
    exact gx_Calculator_guessTimes_b23 F C hr hk  u t0 x2 x3 a24 (((u.1 t1 ((x3 - (2 : Int32))).toNatClampNeg)).toInt64) o_t0 hW (lv_sub hl [1, 3, 4, 0] rfl) h

set_option maxRecDepth 20000 in
theorem gc_Calculator_guessTimes (l : Launch) {D : va_G} {cA : Nat → ClassId} {hs : Nat → Nat} {z : gw_Sh} (F : Nat) {u : gw_St} {r0 : (Int64 × gw_St)} {t0 : Nat} {t1 : Nat} {x2 : Int32} {x3 : Int32} (o_t0 : gw_ok z t0 10) (o_t1 : gw_ok z t1 10) (h : gf_Calculator_guessTimes F z u t0 t1 x2 x3 = some r0) (sz : Nat) : gw_Ml l gy_Calculator_guessTimes gb_Calculator_guessTimes 17 (some .long) gr_Calculator_guessTimes [.ref (hs t0), .ref (hs t1), .int x2, .int x3] D cA hs z u sz r0 := by
  refine gw_enter (by decide) (Nat.le_of_ble_eq_true rfl) ?_
  intro p e s m below meth c ls hsz C hW hr hk _ hl
  subst hsz
  exact gx_Calculator_guessTimes_b0 F C hr hk u t0 t1 x2 x3 o_t0 o_t1 hW (lv_sub hl [0, 1, 2, 3] rfl) h
-- GearDesk$Calculator.takeMultiple([I[IIIJ)I
def gy_Calculator_takeMultiple : MethodName := ⟨R_Calculator, "takeMultiple", "([I[IIIJ)I"⟩
abbrev gb_Calculator_takeMultiple : ByteArray := prog_2_method_6_code
theorem gk_68 : Cond.code gy_Calculator_takeMultiple gb_Calculator_takeMultiple 13 (some .int) ∈ gt_T := gt_m5 (List.mem_of_getElem? (i := 128) rfl) rfl
def gr_Calculator_takeMultiple : Room := gw_rm 1 64
theorem gm_Calculator_takeMultiple : gw_Mth gy_Calculator_takeMultiple gb_Calculator_takeMultiple 13 (some .int) 5 := ⟨gk_68, gk_66, ⟨by decide +kernel, by decide +kernel⟩, by decide +kernel⟩
theorem gd_Calculator_takeMultiple_0 : decode gb_Calculator_takeMultiple 0 = .ok (.lconst 0, 1) := by decide +kernel
theorem gd_Calculator_takeMultiple_1 : decode gb_Calculator_takeMultiple 1 = .ok (.lstore 6, 2) := by decide +kernel
theorem gd_Calculator_takeMultiple_3 : decode gb_Calculator_takeMultiple 3 = .ok (.iconst 0, 1) := by decide +kernel
theorem gd_Calculator_takeMultiple_4 : decode gb_Calculator_takeMultiple 4 = .ok (.istore 8, 2) := by decide +kernel
theorem gd_Calculator_takeMultiple_6 : decode gb_Calculator_takeMultiple 6 = .ok (.iload 8, 2) := by decide +kernel
theorem gd_Calculator_takeMultiple_8 : decode gb_Calculator_takeMultiple 8 = .ok (.iload_n 3, 1) := by decide +kernel
theorem gd_Calculator_takeMultiple_9 : decode gb_Calculator_takeMultiple 9 = .ok (.if_icmp .ge 50, 3) := by decide +kernel
theorem gd_Calculator_takeMultiple_12 : decode gb_Calculator_takeMultiple 12 = .ok (.aload_n 0, 1) := by decide +kernel
theorem gd_Calculator_takeMultiple_13 : decode gb_Calculator_takeMultiple 13 = .ok (.iload_n 2, 1) := by decide +kernel
theorem gd_Calculator_takeMultiple_14 : decode gb_Calculator_takeMultiple 14 = .ok (.iload 8, 2) := by decide +kernel
theorem gd_Calculator_takeMultiple_16 : decode gb_Calculator_takeMultiple 16 = .ok (.iadd, 1) := by decide +kernel
theorem gd_Calculator_takeMultiple_17 : decode gb_Calculator_takeMultiple 17 = .ok (.iaload, 1) := by decide +kernel
theorem gd_Calculator_takeMultiple_18 : decode gb_Calculator_takeMultiple 18 = .ok (.i2l, 1) := by decide +kernel
theorem gd_Calculator_takeMultiple_19 : decode gb_Calculator_takeMultiple 19 = .ok (.lload 6, 2) := by decide +kernel
theorem gd_Calculator_takeMultiple_21 : decode gb_Calculator_takeMultiple 21 = .ok (.ladd, 1) := by decide +kernel
theorem gd_Calculator_takeMultiple_22 : decode gb_Calculator_takeMultiple 22 = .ok (.lload 4, 2) := by decide +kernel
theorem gd_Calculator_takeMultiple_24 : decode gb_Calculator_takeMultiple 24 = .ok (.aload_n 1, 1) := by decide +kernel
theorem gd_Calculator_takeMultiple_25 : decode gb_Calculator_takeMultiple 25 = .ok (.iload 8, 2) := by decide +kernel
theorem gd_Calculator_takeMultiple_27 : decode gb_Calculator_takeMultiple 27 = .ok (.iaload, 1) := by decide +kernel
theorem gd_Calculator_takeMultiple_28 : decode gb_Calculator_takeMultiple 28 = .ok (.i2l, 1) := by decide +kernel
theorem gd_Calculator_takeMultiple_29 : decode gb_Calculator_takeMultiple 29 = .ok (.lmul, 1) := by decide +kernel
theorem gd_Calculator_takeMultiple_30 : decode gb_Calculator_takeMultiple 30 = .ok (.lsub, 1) := by decide +kernel
theorem gd_Calculator_takeMultiple_31 : decode gb_Calculator_takeMultiple 31 = .ok (.lstore 9, 2) := by decide +kernel
theorem gd_Calculator_takeMultiple_33 : decode gb_Calculator_takeMultiple 33 = .ok (.aload_n 0, 1) := by decide +kernel
theorem gd_Calculator_takeMultiple_34 : decode gb_Calculator_takeMultiple 34 = .ok (.iload_n 2, 1) := by decide +kernel
theorem gd_Calculator_takeMultiple_35 : decode gb_Calculator_takeMultiple 35 = .ok (.iload 8, 2) := by decide +kernel
theorem gd_Calculator_takeMultiple_37 : decode gb_Calculator_takeMultiple 37 = .ok (.iadd, 1) := by decide +kernel
theorem gd_Calculator_takeMultiple_38 : decode gb_Calculator_takeMultiple 38 = .ok (.lload 9, 2) := by decide +kernel
theorem gd_Calculator_takeMultiple_40 : decode gb_Calculator_takeMultiple 40 = .ok (.ldc2_w 98, 3) := by decide +kernel
theorem gd_Calculator_takeMultiple_43 : decode gb_Calculator_takeMultiple 43 = .ok (.land, 1) := by decide +kernel
theorem gd_Calculator_takeMultiple_44 : decode gb_Calculator_takeMultiple 44 = .ok (.l2i, 1) := by decide +kernel
theorem gd_Calculator_takeMultiple_45 : decode gb_Calculator_takeMultiple 45 = .ok (.iastore, 1) := by decide +kernel
theorem gd_Calculator_takeMultiple_46 : decode gb_Calculator_takeMultiple 46 = .ok (.lload 9, 2) := by decide +kernel
theorem gd_Calculator_takeMultiple_48 : decode gb_Calculator_takeMultiple 48 = .ok (.bipush 31, 2) := by decide +kernel
theorem gd_Calculator_takeMultiple_50 : decode gb_Calculator_takeMultiple 50 = .ok (.lshr, 1) := by decide +kernel
theorem gd_Calculator_takeMultiple_51 : decode gb_Calculator_takeMultiple 51 = .ok (.lstore 6, 2) := by decide +kernel
theorem gd_Calculator_takeMultiple_53 : decode gb_Calculator_takeMultiple 53 = .ok (.iinc 8 1, 3) := by decide +kernel
theorem gd_Calculator_takeMultiple_56 : decode gb_Calculator_takeMultiple 56 = .ok (.goto (-50), 3) := by decide +kernel
theorem gd_Calculator_takeMultiple_59 : decode gb_Calculator_takeMultiple 59 = .ok (.aload_n 0, 1) := by decide +kernel
theorem gd_Calculator_takeMultiple_60 : decode gb_Calculator_takeMultiple 60 = .ok (.iload_n 2, 1) := by decide +kernel
theorem gd_Calculator_takeMultiple_61 : decode gb_Calculator_takeMultiple 61 = .ok (.iload_n 3, 1) := by decide +kernel
theorem gd_Calculator_takeMultiple_62 : decode gb_Calculator_takeMultiple 62 = .ok (.iadd, 1) := by decide +kernel
theorem gd_Calculator_takeMultiple_63 : decode gb_Calculator_takeMultiple 63 = .ok (.iaload, 1) := by decide +kernel
theorem gd_Calculator_takeMultiple_64 : decode gb_Calculator_takeMultiple 64 = .ok (.i2l, 1) := by decide +kernel
theorem gd_Calculator_takeMultiple_65 : decode gb_Calculator_takeMultiple 65 = .ok (.lload 6, 2) := by decide +kernel
theorem gd_Calculator_takeMultiple_67 : decode gb_Calculator_takeMultiple 67 = .ok (.ladd, 1) := by decide +kernel
theorem gd_Calculator_takeMultiple_68 : decode gb_Calculator_takeMultiple 68 = .ok (.lstore 8, 2) := by decide +kernel
theorem gd_Calculator_takeMultiple_70 : decode gb_Calculator_takeMultiple 70 = .ok (.aload_n 0, 1) := by decide +kernel
theorem gd_Calculator_takeMultiple_71 : decode gb_Calculator_takeMultiple 71 = .ok (.iload_n 2, 1) := by decide +kernel
theorem gd_Calculator_takeMultiple_72 : decode gb_Calculator_takeMultiple 72 = .ok (.iload_n 3, 1) := by decide +kernel
theorem gd_Calculator_takeMultiple_73 : decode gb_Calculator_takeMultiple 73 = .ok (.iadd, 1) := by decide +kernel
theorem gd_Calculator_takeMultiple_74 : decode gb_Calculator_takeMultiple 74 = .ok (.iconst 0, 1) := by decide +kernel
theorem gd_Calculator_takeMultiple_75 : decode gb_Calculator_takeMultiple 75 = .ok (.iastore, 1) := by decide +kernel
theorem gd_Calculator_takeMultiple_76 : decode gb_Calculator_takeMultiple 76 = .ok (.lload 8, 2) := by decide +kernel
theorem gd_Calculator_takeMultiple_78 : decode gb_Calculator_takeMultiple 78 = .ok (.lconst 0, 1) := by decide +kernel
theorem gd_Calculator_takeMultiple_79 : decode gb_Calculator_takeMultiple 79 = .ok (.lcmp, 1) := by decide +kernel
theorem gd_Calculator_takeMultiple_80 : decode gb_Calculator_takeMultiple 80 = .ok (.ifCond .lt 7, 3) := by decide +kernel
theorem gd_Calculator_takeMultiple_83 : decode gb_Calculator_takeMultiple 83 = .ok (.lload 4, 2) := by decide +kernel
theorem gd_Calculator_takeMultiple_85 : decode gb_Calculator_takeMultiple 85 = .ok (.l2i, 1) := by decide +kernel
theorem gd_Calculator_takeMultiple_86 : decode gb_Calculator_takeMultiple 86 = .ok (.ireturn, 1) := by decide +kernel
theorem gd_Calculator_takeMultiple_87 : decode gb_Calculator_takeMultiple 87 = .ok (.lconst 0, 1) := by decide +kernel
theorem gd_Calculator_takeMultiple_88 : decode gb_Calculator_takeMultiple 88 = .ok (.lstore 6, 2) := by decide +kernel
theorem gd_Calculator_takeMultiple_90 : decode gb_Calculator_takeMultiple 90 = .ok (.iconst 0, 1) := by decide +kernel
theorem gd_Calculator_takeMultiple_91 : decode gb_Calculator_takeMultiple 91 = .ok (.istore 10, 2) := by decide +kernel
theorem gd_Calculator_takeMultiple_93 : decode gb_Calculator_takeMultiple 93 = .ok (.iload 10, 2) := by decide +kernel
theorem gd_Calculator_takeMultiple_95 : decode gb_Calculator_takeMultiple 95 = .ok (.iload_n 3, 1) := by decide +kernel
theorem gd_Calculator_takeMultiple_96 : decode gb_Calculator_takeMultiple 96 = .ok (.if_icmp .ge 47, 3) := by decide +kernel
theorem gd_Calculator_takeMultiple_99 : decode gb_Calculator_takeMultiple 99 = .ok (.aload_n 0, 1) := by decide +kernel
theorem gd_Calculator_takeMultiple_100 : decode gb_Calculator_takeMultiple 100 = .ok (.iload_n 2, 1) := by decide +kernel
theorem gd_Calculator_takeMultiple_101 : decode gb_Calculator_takeMultiple 101 = .ok (.iload 10, 2) := by decide +kernel
theorem gd_Calculator_takeMultiple_103 : decode gb_Calculator_takeMultiple 103 = .ok (.iadd, 1) := by decide +kernel
theorem gd_Calculator_takeMultiple_104 : decode gb_Calculator_takeMultiple 104 = .ok (.iaload, 1) := by decide +kernel
theorem gd_Calculator_takeMultiple_105 : decode gb_Calculator_takeMultiple 105 = .ok (.i2l, 1) := by decide +kernel
theorem gd_Calculator_takeMultiple_106 : decode gb_Calculator_takeMultiple 106 = .ok (.aload_n 1, 1) := by decide +kernel
theorem gd_Calculator_takeMultiple_107 : decode gb_Calculator_takeMultiple 107 = .ok (.iload 10, 2) := by decide +kernel
theorem gd_Calculator_takeMultiple_109 : decode gb_Calculator_takeMultiple 109 = .ok (.iaload, 1) := by decide +kernel
theorem gd_Calculator_takeMultiple_110 : decode gb_Calculator_takeMultiple 110 = .ok (.i2l, 1) := by decide +kernel
theorem gd_Calculator_takeMultiple_111 : decode gb_Calculator_takeMultiple 111 = .ok (.ladd, 1) := by decide +kernel
theorem gd_Calculator_takeMultiple_112 : decode gb_Calculator_takeMultiple 112 = .ok (.lload 6, 2) := by decide +kernel
theorem gd_Calculator_takeMultiple_114 : decode gb_Calculator_takeMultiple 114 = .ok (.ladd, 1) := by decide +kernel
theorem gd_Calculator_takeMultiple_115 : decode gb_Calculator_takeMultiple 115 = .ok (.lstore 11, 2) := by decide +kernel
theorem gd_Calculator_takeMultiple_117 : decode gb_Calculator_takeMultiple 117 = .ok (.aload_n 0, 1) := by decide +kernel
theorem gd_Calculator_takeMultiple_118 : decode gb_Calculator_takeMultiple 118 = .ok (.iload_n 2, 1) := by decide +kernel
theorem gd_Calculator_takeMultiple_119 : decode gb_Calculator_takeMultiple 119 = .ok (.iload 10, 2) := by decide +kernel
theorem gd_Calculator_takeMultiple_121 : decode gb_Calculator_takeMultiple 121 = .ok (.iadd, 1) := by decide +kernel
theorem gd_Calculator_takeMultiple_122 : decode gb_Calculator_takeMultiple 122 = .ok (.lload 11, 2) := by decide +kernel
theorem gd_Calculator_takeMultiple_124 : decode gb_Calculator_takeMultiple 124 = .ok (.ldc2_w 98, 3) := by decide +kernel
theorem gd_Calculator_takeMultiple_127 : decode gb_Calculator_takeMultiple 127 = .ok (.land, 1) := by decide +kernel
theorem gd_Calculator_takeMultiple_128 : decode gb_Calculator_takeMultiple 128 = .ok (.l2i, 1) := by decide +kernel
theorem gd_Calculator_takeMultiple_129 : decode gb_Calculator_takeMultiple 129 = .ok (.iastore, 1) := by decide +kernel
theorem gd_Calculator_takeMultiple_130 : decode gb_Calculator_takeMultiple 130 = .ok (.lload 11, 2) := by decide +kernel
theorem gd_Calculator_takeMultiple_132 : decode gb_Calculator_takeMultiple 132 = .ok (.bipush 31, 2) := by decide +kernel
theorem gd_Calculator_takeMultiple_134 : decode gb_Calculator_takeMultiple 134 = .ok (.lshr, 1) := by decide +kernel
theorem gd_Calculator_takeMultiple_135 : decode gb_Calculator_takeMultiple 135 = .ok (.lstore 6, 2) := by decide +kernel
theorem gd_Calculator_takeMultiple_137 : decode gb_Calculator_takeMultiple 137 = .ok (.iinc 10 1, 3) := by decide +kernel
theorem gd_Calculator_takeMultiple_140 : decode gb_Calculator_takeMultiple 140 = .ok (.goto (-47), 3) := by decide +kernel
theorem gd_Calculator_takeMultiple_143 : decode gb_Calculator_takeMultiple 143 = .ok (.lload 4, 2) := by decide +kernel
theorem gd_Calculator_takeMultiple_145 : decode gb_Calculator_takeMultiple 145 = .ok (.l2i, 1) := by decide +kernel
theorem gd_Calculator_takeMultiple_146 : decode gb_Calculator_takeMultiple 146 = .ok (.iconst 1, 1) := by decide +kernel
theorem gd_Calculator_takeMultiple_147 : decode gb_Calculator_takeMultiple 147 = .ok (.isub, 1) := by decide +kernel
theorem gd_Calculator_takeMultiple_148 : decode gb_Calculator_takeMultiple 148 = .ok (.ireturn, 1) := by decide +kernel
def gf_Calculator_takeMultiple_S93 (F : Nat) (z : gw_Sh)  (rc_93 : gw_St → Nat → Nat → Int32 → Int32 → Int64 → Int64 → Int32 → Option (Int32 × gw_St)) (u : gw_St) (t0 : Nat) (t1 : Nat) (x2 : Int32) (x3 : Int32) (y4 : Int64) (y6 : Int64) (x10 : Int32) : Option (Int32 × gw_St) :=
  if x3 ≤ x10 then (some ((((y4).toInt32) - (1 : Int32)), u)) else (if ((x2 + x10) < 0 ∨ z.2.2 t0 ≤ ((x2 + x10)).toNatClampNeg) then none else if (x10 < 0 ∨ z.2.2 t1 ≤ (x10).toNatClampNeg) then none else gf_nm (((((u.1 t0 ((x2 + x10)).toNatClampNeg)).toInt64) + (((u.1 t1 (x10).toNatClampNeg)).toInt64)) + y6) fun a4 => if ((x2 + x10) < 0 ∨ z.2.2 t0 ≤ ((x2 + x10)).toNatClampNeg) then none else gf_nm (gw_wi u t0 ((x2 + x10)).toNatClampNeg (((a4 &&& (2147483647 : Int64))).toInt32)) fun u7 => gf_nm (a4 >>> (((31 : Int32)).toInt64 &&& 63)) fun a9 => gf_nm (x10 + 1) fun a11 => rc_93 u7 t0 t1 x2 x3 y4 a9 a11)
def gf_Calculator_takeMultiple_L93 (F : Nat) (z : gw_Sh)  : Nat → gw_St → Nat → Nat → Int32 → Int32 → Int64 → Int64 → Int32 → Option (Int32 × gw_St)
  | 0 => fun _ _ _ _ _ _ _ _ => none
  | n + 1 => fun u t0 t1 x2 x3 y4 y6 x10 => gf_Calculator_takeMultiple_S93 F z  (gf_Calculator_takeMultiple_L93 F z  n) u t0 t1 x2 x3 y4 y6 x10
def gf_Calculator_takeMultiple_S6 (F : Nat) (z : gw_Sh)  (rc_6 : gw_St → Nat → Nat → Int32 → Int32 → Int64 → Int64 → Int32 → Option (Int32 × gw_St)) (u : gw_St) (t0 : Nat) (t1 : Nat) (x2 : Int32) (x3 : Int32) (y4 : Int64) (y6 : Int64) (x8 : Int32) : Option (Int32 × gw_St) :=
  if x3 ≤ x8 then (if ((x2 + x3) < 0 ∨ z.2.2 t0 ≤ ((x2 + x3)).toNatClampNeg) then none else gf_nm ((((u.1 t0 ((x2 + x3)).toNatClampNeg)).toInt64) + y6) fun a15 => if ((x2 + x3) < 0 ∨ z.2.2 t0 ≤ ((x2 + x3)).toNatClampNeg) then none else gf_nm (gw_wi u t0 ((x2 + x3)).toNatClampNeg (0 : Int32)) fun u18 => if (lg_cmp a15 (0 : Int64)) < 0 then (gf_Calculator_takeMultiple_L93 F z  F u18 t0 t1 x2 x3 y4 0 0) else (some (((y4).toInt32), u18))) else (if ((x2 + x8) < 0 ∨ z.2.2 t0 ≤ ((x2 + x8)).toNatClampNeg) then none else if (x8 < 0 ∨ z.2.2 t1 ≤ (x8).toNatClampNeg) then none else gf_nm (((((u.1 t0 ((x2 + x8)).toNatClampNeg)).toInt64) + y6) - (y4 * (((u.1 t1 (x8).toNatClampNeg)).toInt64))) fun a23 => if ((x2 + x8) < 0 ∨ z.2.2 t0 ≤ ((x2 + x8)).toNatClampNeg) then none else gf_nm (gw_wi u t0 ((x2 + x8)).toNatClampNeg (((a23 &&& (2147483647 : Int64))).toInt32)) fun u26 => gf_nm (a23 >>> (((31 : Int32)).toInt64 &&& 63)) fun a28 => gf_nm (x8 + 1) fun a30 => rc_6 u26 t0 t1 x2 x3 y4 a28 a30)
def gf_Calculator_takeMultiple_L6 (F : Nat) (z : gw_Sh)  : Nat → gw_St → Nat → Nat → Int32 → Int32 → Int64 → Int64 → Int32 → Option (Int32 × gw_St)
  | 0 => fun _ _ _ _ _ _ _ _ => none
  | n + 1 => fun u t0 t1 x2 x3 y4 y6 x8 => gf_Calculator_takeMultiple_S6 F z  (gf_Calculator_takeMultiple_L6 F z  n) u t0 t1 x2 x3 y4 y6 x8
def gf_Calculator_takeMultiple_b0 (F : Nat) (z : gw_Sh)  (u : gw_St) (t0 : Nat) (t1 : Nat) (x2 : Int32) (x3 : Int32) (y4 : Int64) : Option (Int32 × gw_St) :=
  gf_Calculator_takeMultiple_L6 F z  F u t0 t1 x2 x3 y4 0 0
def gf_Calculator_takeMultiple (F : Nat) (z : gw_Sh) (u : gw_St) (t0 : Nat) (t1 : Nat) (x2 : Int32) (x3 : Int32) (y4 : Int64) : Option (Int32 × gw_St) := gf_Calculator_takeMultiple_b0 F z  u t0 t1 x2 x3 y4
set_option maxHeartbeats 4000000 in
set_option maxRecDepth 20000 in
theorem gx_Calculator_takeMultiple_S93 {p : Program} {l : Launch} {e : Env} {s : State} {m : MethodId} {args : Array Value} {below : List Frame} {meth : Method} {c : Code} {D : va_G} {cA : Nat → ClassId} {hs : Nat → Nat} {z : gw_Sh} (F : Nat) {r0 : (Int32 × gw_St)} (C : gw_Cx p s m args c gb_Calculator_takeMultiple 13 R_Calculator D cA) (hr : meth.sig.returnType = (some .int)) (hk : meth.locks = false) {rc_93 : gw_St → Nat → Nat → Int32 → Int32 → Int64 → Int64 → Int32 → Option (Int32 × gw_St)} (k_93 : ∀ (u : gw_St) (t0 : Nat) (t1 : Nat) (x2 : Int32) (x3 : Int32) (y4 : Int64) (y6 : Int64) (x10 : Int32) (H : Heap) (locs : List Loc) (ls : Array Slot), gw_ok z t0 10 → gw_ok z t1 10 → gw_Wx D cA hs z s u H locs → lv_has ls 13 [(0, .ref (hs t0)), (1, .ref (hs t1)), (2, .int x2), (3, .int x3), (4, .long y4), (6, .long y6), (10, .int x10)] → rc_93 u t0 t1 x2 x3 y4 y6 x10 = some r0 → gw_Gi p l e gr_Calculator_takeMultiple s m args below meth c D cA hs z r0 H locs ls 93 []) (u : gw_St) (t0 : Nat) (t1 : Nat) (x2 : Int32) (x3 : Int32) (y4 : Int64) (y6 : Int64) (x10 : Int32) (o_t0 : gw_ok z t0 10) (o_t1 : gw_ok z t1 10) {H : Heap} {locs : List Loc} {ls : Array Slot} (hW : gw_Wx D cA hs z s u H locs) (hl : lv_has ls 13 [(0, .ref (hs t0)), (1, .ref (hs t1)), (2, .int x2), (3, .int x3), (4, .long y4), (6, .long y6), (10, .int x10)]) (h : gf_Calculator_takeMultiple_S93 F z  rc_93 u t0 t1 x2 x3 y4 y6 x10 = some r0) : gw_Gi p l e gr_Calculator_takeMultiple s m args below meth c D cA hs z r0 H locs ls 93 [] := by
  obtain ⟨hx, hb, hml, hown, hts, hK⟩ := id C
  unfold gf_Calculator_takeMultiple_S93 at h
  refine lv_iload hx hb gd_Calculator_takeMultiple_93 (lv_at hl 6 rfl) ?_
  refine lv_iload_n hx hb gd_Calculator_takeMultiple_95 rfl (lv_at hl 3 rfl) ?_
  refine lv_icmp_ge (tgt := 143) hx hb gd_Calculator_takeMultiple_96 (by decide) (fun c1 => ?_) (fun c1 => ?_)
  · have h := gf_t c1 h
    refine lv_lload hx hb gd_Calculator_takeMultiple_143 (lv_at hl 4 rfl) ?_
    refine lv_l2i hx hb gd_Calculator_takeMultiple_145 rfl ?_
    refine lv_iconst (v := 1) hx hb gd_Calculator_takeMultiple_146 (by decide) ?_
    refine lv_isub hx hb gd_Calculator_takeMultiple_147 ?_
    obtain rfl := Option.some.inj h
    exact gw_iret C hW hr hk gd_Calculator_takeMultiple_148
  · have h := gf_f c1 h
    refine lv_aload_n hx hb gd_Calculator_takeMultiple_99 rfl (lv_at hl 0 rfl) ?_
    refine lv_iload_n hx hb gd_Calculator_takeMultiple_100 rfl (lv_at hl 2 rfl) ?_
    refine lv_iload hx hb gd_Calculator_takeMultiple_101 (lv_at hl 6 rfl) ?_
    refine lv_iadd hx hb gd_Calculator_takeMultiple_103 ?_
    obtain ⟨g2, h⟩ := gf_if_ok h
    refine gw_iald C hW o_t0 g2 gd_Calculator_takeMultiple_104 ?_
    refine lv_i2l hx hb gd_Calculator_takeMultiple_105 rfl ?_
    refine lv_aload_n hx hb gd_Calculator_takeMultiple_106 rfl (lv_at hl 1 rfl) ?_
    refine lv_iload hx hb gd_Calculator_takeMultiple_107 (lv_at hl 6 rfl) ?_
    obtain ⟨g3, h⟩ := gf_if_ok h
    refine gw_iald C hW o_t1 g3 gd_Calculator_takeMultiple_109 ?_
    refine lv_i2l hx hb gd_Calculator_takeMultiple_110 rfl ?_
    refine lv_ladd hx hb gd_Calculator_takeMultiple_111 ?_
    refine lv_lload hx hb gd_Calculator_takeMultiple_112 (lv_at hl 5 rfl) ?_
    refine lv_ladd hx hb gd_Calculator_takeMultiple_114 ?_
    refine lv_topl (fun a4 e5 => ?_)
    have h := gf_nm_ok e5 h
    refine lv_lstore (lv' := [(11, .long a4), (0, .ref (hs t0)), (1, .ref (hs t1)), (2, .int x2), (3, .int x3), (4, .long y4), (6, .long y6), (10, .int x10)]) hx hb gd_Calculator_takeMultiple_115 hl (by decide) rfl (fun ls hl => ?_)
    refine lv_aload_n hx hb gd_Calculator_takeMultiple_117 rfl (lv_at hl 1 rfl) ?_
    refine lv_iload_n hx hb gd_Calculator_takeMultiple_118 rfl (lv_at hl 3 rfl) ?_
    refine lv_iload hx hb gd_Calculator_takeMultiple_119 (lv_at hl 7 rfl) ?_
    refine lv_iadd hx hb gd_Calculator_takeMultiple_121 ?_
    refine lv_lload hx hb gd_Calculator_takeMultiple_122 (lv_at hl 0 rfl) ?_
    refine lv_ldc2 (v := 2147483647) hx hb hown (hts _ gk_65) gd_Calculator_takeMultiple_124 ?_
    refine lv_land hx hb gd_Calculator_takeMultiple_127 ?_
    refine lv_l2i hx hb gd_Calculator_takeMultiple_128 rfl ?_
    obtain ⟨g6, h⟩ := gf_if_ok h
    refine gw_iast C hW o_t0 g6 gd_Calculator_takeMultiple_129 (fun u7 H locs e8 hW => ?_)
    have h := gf_nm_ok e8 h
    refine lv_lload hx hb gd_Calculator_takeMultiple_130 (lv_at hl 0 rfl) ?_
    refine lv_bipush (v := 31) hx hb gd_Calculator_takeMultiple_132 (by decide) ?_
    refine lv_lshr hx hb gd_Calculator_takeMultiple_134 rfl ?_
    refine lv_topl (fun a9 e10 => ?_)
    have h := gf_nm_ok e10 h
    refine lv_lstore (lv' := [(6, .long a9), (11, .long a4), (0, .ref (hs t0)), (1, .ref (hs t1)), (2, .int x2), (3, .int x3), (4, .long y4), (10, .int x10)]) hx hb gd_Calculator_takeMultiple_135 hl (by decide) rfl (fun ls hl => ?_)
    obtain ⟨a11, e12⟩ : ∃ y : Int32, y = x10 + 1 := ⟨_, rfl⟩
    have h := gf_nm_ok e12 h
    refine lv_iinc (v := a11) (lv' := [(10, .int a11), (6, .long a9), (11, .long a4), (0, .ref (hs t0)), (1, .ref (hs t1)), (2, .int x2), (3, .int x3), (4, .long y4)]) hx hb gd_Calculator_takeMultiple_137 hl (k := 7) rfl (by rw [e12]; rfl) (by decide) rfl (fun ls hl => ?_)
    refine lv_goto (tgt := 93) hx hb gd_Calculator_takeMultiple_140 (by decide) ?_
    exact k_93 u7 t0 t1 x2 x3 y4 a9 a11 _ _ _ o_t0 o_t1 hW (lv_sub hl [3, 4, 5, 6, 7, 1, 0] rfl) h
set_option maxHeartbeats 4000000 in
set_option maxRecDepth 20000 in
theorem gx_Calculator_takeMultiple_L93 {p : Program} {l : Launch} {e : Env} {s : State} {m : MethodId} {args : Array Value} {below : List Frame} {meth : Method} {c : Code} {D : va_G} {cA : Nat → ClassId} {hs : Nat → Nat} {z : gw_Sh} (F : Nat) {r0 : (Int32 × gw_St)} (C : gw_Cx p s m args c gb_Calculator_takeMultiple 13 R_Calculator D cA) (hr : meth.sig.returnType = (some .int)) (hk : meth.locks = false) : ∀ (n : Nat), ∀ (u : gw_St) (t0 : Nat) (t1 : Nat) (x2 : Int32) (x3 : Int32) (y4 : Int64) (y6 : Int64) (x10 : Int32) (H : Heap) (locs : List Loc) (ls : Array Slot), gw_ok z t0 10 → gw_ok z t1 10 → gw_Wx D cA hs z s u H locs → lv_has ls 13 [(0, .ref (hs t0)), (1, .ref (hs t1)), (2, .int x2), (3, .int x3), (4, .long y4), (6, .long y6), (10, .int x10)] → gf_Calculator_takeMultiple_L93 F z  n u t0 t1 x2 x3 y4 y6 x10 = some r0 → gw_Gi p l e gr_Calculator_takeMultiple s m args below meth c D cA hs z r0 H locs ls 93 [] := by
  intro n
  induction n with
  | zero =>
    intro u t0 t1 x2 x3 y4 y6 x10 H locs ls o_t0 o_t1 hW hl h
    cases h
  | succ n ih =>
    intro u t0 t1 x2 x3 y4 y6 x10 H locs ls o_t0 o_t1 hW hl h
    exact gx_Calculator_takeMultiple_S93 F C hr hk  ih u t0 t1 x2 x3 y4 y6 x10 o_t0 o_t1 hW hl h

set_option maxHeartbeats 4000000 in
set_option maxRecDepth 20000 in
theorem gx_Calculator_takeMultiple_S6 {p : Program} {l : Launch} {e : Env} {s : State} {m : MethodId} {args : Array Value} {below : List Frame} {meth : Method} {c : Code} {D : va_G} {cA : Nat → ClassId} {hs : Nat → Nat} {z : gw_Sh} (F : Nat) {r0 : (Int32 × gw_St)} (C : gw_Cx p s m args c gb_Calculator_takeMultiple 13 R_Calculator D cA) (hr : meth.sig.returnType = (some .int)) (hk : meth.locks = false) {rc_6 : gw_St → Nat → Nat → Int32 → Int32 → Int64 → Int64 → Int32 → Option (Int32 × gw_St)} (k_6 : ∀ (u : gw_St) (t0 : Nat) (t1 : Nat) (x2 : Int32) (x3 : Int32) (y4 : Int64) (y6 : Int64) (x8 : Int32) (H : Heap) (locs : List Loc) (ls : Array Slot), gw_ok z t0 10 → gw_ok z t1 10 → gw_Wx D cA hs z s u H locs → lv_has ls 13 [(0, .ref (hs t0)), (1, .ref (hs t1)), (2, .int x2), (3, .int x3), (4, .long y4), (6, .long y6), (8, .int x8)] → rc_6 u t0 t1 x2 x3 y4 y6 x8 = some r0 → gw_Gi p l e gr_Calculator_takeMultiple s m args below meth c D cA hs z r0 H locs ls 6 []) (u : gw_St) (t0 : Nat) (t1 : Nat) (x2 : Int32) (x3 : Int32) (y4 : Int64) (y6 : Int64) (x8 : Int32) (o_t0 : gw_ok z t0 10) (o_t1 : gw_ok z t1 10) {H : Heap} {locs : List Loc} {ls : Array Slot} (hW : gw_Wx D cA hs z s u H locs) (hl : lv_has ls 13 [(0, .ref (hs t0)), (1, .ref (hs t1)), (2, .int x2), (3, .int x3), (4, .long y4), (6, .long y6), (8, .int x8)]) (h : gf_Calculator_takeMultiple_S6 F z  rc_6 u t0 t1 x2 x3 y4 y6 x8 = some r0) : gw_Gi p l e gr_Calculator_takeMultiple s m args below meth c D cA hs z r0 H locs ls 6 [] := by
  obtain ⟨hx, hb, hml, hown, hts, hK⟩ := id C
  unfold gf_Calculator_takeMultiple_S6 at h
  refine lv_iload hx hb gd_Calculator_takeMultiple_6 (lv_at hl 6 rfl) ?_
  refine lv_iload_n hx hb gd_Calculator_takeMultiple_8 rfl (lv_at hl 3 rfl) ?_
  refine lv_icmp_ge (tgt := 59) hx hb gd_Calculator_takeMultiple_9 (by decide) (fun c13 => ?_) (fun c13 => ?_)
  · have h := gf_t c13 h
    refine lv_aload_n hx hb gd_Calculator_takeMultiple_59 rfl (lv_at hl 0 rfl) ?_
    refine lv_iload_n hx hb gd_Calculator_takeMultiple_60 rfl (lv_at hl 2 rfl) ?_
    refine lv_iload_n hx hb gd_Calculator_takeMultiple_61 rfl (lv_at hl 3 rfl) ?_
    refine lv_iadd hx hb gd_Calculator_takeMultiple_62 ?_
    obtain ⟨g14, h⟩ := gf_if_ok h
    refine gw_iald C hW o_t0 g14 gd_Calculator_takeMultiple_63 ?_
    refine lv_i2l hx hb gd_Calculator_takeMultiple_64 rfl ?_
    refine lv_lload hx hb gd_Calculator_takeMultiple_65 (lv_at hl 5 rfl) ?_
    refine lv_ladd hx hb gd_Calculator_takeMultiple_67 ?_
    refine lv_topl (fun a15 e16 => ?_)
    have h := gf_nm_ok e16 h
    refine lv_lstore (lv' := [(8, .long a15), (0, .ref (hs t0)), (1, .ref (hs t1)), (2, .int x2), (3, .int x3), (4, .long y4), (6, .long y6)]) hx hb gd_Calculator_takeMultiple_68 hl (by decide) rfl (fun ls hl => ?_)
    refine lv_aload_n hx hb gd_Calculator_takeMultiple_70 rfl (lv_at hl 1 rfl) ?_
    refine lv_iload_n hx hb gd_Calculator_takeMultiple_71 rfl (lv_at hl 3 rfl) ?_
    refine lv_iload_n hx hb gd_Calculator_takeMultiple_72 rfl (lv_at hl 4 rfl) ?_
    refine lv_iadd hx hb gd_Calculator_takeMultiple_73 ?_
    refine lv_iconst (v := 0) hx hb gd_Calculator_takeMultiple_74 (by decide) ?_
    obtain ⟨g17, h⟩ := gf_if_ok h
    refine gw_iast C hW o_t0 g17 gd_Calculator_takeMultiple_75 (fun u18 H locs e19 hW => ?_)
    have h := gf_nm_ok e19 h
    refine lv_lload hx hb gd_Calculator_takeMultiple_76 (lv_at hl 0 rfl) ?_
    refine lv_lconst (v := 0) hx hb gd_Calculator_takeMultiple_78 (by decide) ?_
    refine W.lcmp hx hb gd_Calculator_takeMultiple_79 ?_
    refine lv_if_lt (tgt := 87) hx hb gd_Calculator_takeMultiple_80 (by decide) (fun c20 => ?_) (fun c20 => ?_)
    · have h := gf_t c20 h
      refine lv_lconst (v := 0) hx hb gd_Calculator_takeMultiple_87 (by decide) ?_
      refine lv_lstore (lv' := [(6, .long 0), (8, .long a15), (0, .ref (hs t0)), (1, .ref (hs t1)), (2, .int x2), (3, .int x3), (4, .long y4)]) hx hb gd_Calculator_takeMultiple_88 hl (by decide) rfl (fun ls hl => ?_)
      refine lv_iconst (v := 0) hx hb gd_Calculator_takeMultiple_90 (by decide) ?_
      refine lv_istore (lv' := [(10, .int 0), (6, .long 0), (8, .long a15), (0, .ref (hs t0)), (1, .ref (hs t1)), (2, .int x2), (3, .int x3), (4, .long y4)]) hx hb gd_Calculator_takeMultiple_91 hl (by decide) rfl (fun ls hl => ?_)
      exact gx_Calculator_takeMultiple_L93 F C hr hk  F u18 t0 t1 x2 x3 y4 0 0 _ _ _ o_t0 o_t1 hW (lv_sub hl [3, 4, 5, 6, 7, 1, 0] rfl) h
    · have h := gf_f c20 h
      refine lv_lload hx hb gd_Calculator_takeMultiple_83 (lv_at hl 5 rfl) ?_
      refine lv_l2i hx hb gd_Calculator_takeMultiple_85 rfl ?_
      obtain rfl := Option.some.inj h
      exact gw_iret C hW hr hk gd_Calculator_takeMultiple_86
  · have h := gf_f c13 h
    refine lv_aload_n hx hb gd_Calculator_takeMultiple_12 rfl (lv_at hl 0 rfl) ?_
    refine lv_iload_n hx hb gd_Calculator_takeMultiple_13 rfl (lv_at hl 2 rfl) ?_
    refine lv_iload hx hb gd_Calculator_takeMultiple_14 (lv_at hl 6 rfl) ?_
    refine lv_iadd hx hb gd_Calculator_takeMultiple_16 ?_
    obtain ⟨g21, h⟩ := gf_if_ok h
    refine gw_iald C hW o_t0 g21 gd_Calculator_takeMultiple_17 ?_
    refine lv_i2l hx hb gd_Calculator_takeMultiple_18 rfl ?_
    refine lv_lload hx hb gd_Calculator_takeMultiple_19 (lv_at hl 5 rfl) ?_
    refine lv_ladd hx hb gd_Calculator_takeMultiple_21 ?_
    refine lv_lload hx hb gd_Calculator_takeMultiple_22 (lv_at hl 4 rfl) ?_
    refine lv_aload_n hx hb gd_Calculator_takeMultiple_24 rfl (lv_at hl 1 rfl) ?_
    refine lv_iload hx hb gd_Calculator_takeMultiple_25 (lv_at hl 6 rfl) ?_
    obtain ⟨g22, h⟩ := gf_if_ok h
    refine gw_iald C hW o_t1 g22 gd_Calculator_takeMultiple_27 ?_
    refine lv_i2l hx hb gd_Calculator_takeMultiple_28 rfl ?_
    refine lv_lmul hx hb gd_Calculator_takeMultiple_29 ?_
    refine lv_lsub hx hb gd_Calculator_takeMultiple_30 ?_
    refine lv_topl (fun a23 e24 => ?_)
    have h := gf_nm_ok e24 h
    refine lv_lstore (lv' := [(9, .long a23), (0, .ref (hs t0)), (1, .ref (hs t1)), (2, .int x2), (3, .int x3), (4, .long y4), (6, .long y6), (8, .int x8)]) hx hb gd_Calculator_takeMultiple_31 hl (by decide) rfl (fun ls hl => ?_)
    refine lv_aload_n hx hb gd_Calculator_takeMultiple_33 rfl (lv_at hl 1 rfl) ?_
    refine lv_iload_n hx hb gd_Calculator_takeMultiple_34 rfl (lv_at hl 3 rfl) ?_
    refine lv_iload hx hb gd_Calculator_takeMultiple_35 (lv_at hl 7 rfl) ?_
    refine lv_iadd hx hb gd_Calculator_takeMultiple_37 ?_
    refine lv_lload hx hb gd_Calculator_takeMultiple_38 (lv_at hl 0 rfl) ?_
    refine lv_ldc2 (v := 2147483647) hx hb hown (hts _ gk_65) gd_Calculator_takeMultiple_40 ?_
    refine lv_land hx hb gd_Calculator_takeMultiple_43 ?_
    refine lv_l2i hx hb gd_Calculator_takeMultiple_44 rfl ?_
    obtain ⟨g25, h⟩ := gf_if_ok h
    refine gw_iast C hW o_t0 g25 gd_Calculator_takeMultiple_45 (fun u26 H locs e27 hW => ?_)
    have h := gf_nm_ok e27 h
    refine lv_lload hx hb gd_Calculator_takeMultiple_46 (lv_at hl 0 rfl) ?_
    refine lv_bipush (v := 31) hx hb gd_Calculator_takeMultiple_48 (by decide) ?_
    refine lv_lshr hx hb gd_Calculator_takeMultiple_50 rfl ?_
    refine lv_topl (fun a28 e29 => ?_)
    have h := gf_nm_ok e29 h
    refine lv_lstore (lv' := [(6, .long a28), (9, .long a23), (0, .ref (hs t0)), (1, .ref (hs t1)), (2, .int x2), (3, .int x3), (4, .long y4), (8, .int x8)]) hx hb gd_Calculator_takeMultiple_51 hl (by decide) rfl (fun ls hl => ?_)
    obtain ⟨a30, e31⟩ : ∃ y : Int32, y = x8 + 1 := ⟨_, rfl⟩
    have h := gf_nm_ok e31 h
    refine lv_iinc (v := a30) (lv' := [(8, .int a30), (6, .long a28), (9, .long a23), (0, .ref (hs t0)), (1, .ref (hs t1)), (2, .int x2), (3, .int x3), (4, .long y4)]) hx hb gd_Calculator_takeMultiple_53 hl (k := 7) rfl (by rw [e31]; rfl) (by decide) rfl (fun ls hl => ?_)
    refine lv_goto (tgt := 6) hx hb gd_Calculator_takeMultiple_56 (by decide) ?_
    exact k_6 u26 t0 t1 x2 x3 y4 a28 a30 _ _ _ o_t0 o_t1 hW (lv_sub hl [3, 4, 5, 6, 7, 1, 0] rfl) h
set_option maxHeartbeats 4000000 in
set_option maxRecDepth 20000 in
theorem gx_Calculator_takeMultiple_L6 {p : Program} {l : Launch} {e : Env} {s : State} {m : MethodId} {args : Array Value} {below : List Frame} {meth : Method} {c : Code} {D : va_G} {cA : Nat → ClassId} {hs : Nat → Nat} {z : gw_Sh} (F : Nat) {r0 : (Int32 × gw_St)} (C : gw_Cx p s m args c gb_Calculator_takeMultiple 13 R_Calculator D cA) (hr : meth.sig.returnType = (some .int)) (hk : meth.locks = false) : ∀ (n : Nat), ∀ (u : gw_St) (t0 : Nat) (t1 : Nat) (x2 : Int32) (x3 : Int32) (y4 : Int64) (y6 : Int64) (x8 : Int32) (H : Heap) (locs : List Loc) (ls : Array Slot), gw_ok z t0 10 → gw_ok z t1 10 → gw_Wx D cA hs z s u H locs → lv_has ls 13 [(0, .ref (hs t0)), (1, .ref (hs t1)), (2, .int x2), (3, .int x3), (4, .long y4), (6, .long y6), (8, .int x8)] → gf_Calculator_takeMultiple_L6 F z  n u t0 t1 x2 x3 y4 y6 x8 = some r0 → gw_Gi p l e gr_Calculator_takeMultiple s m args below meth c D cA hs z r0 H locs ls 6 [] := by
  intro n
  induction n with
  | zero =>
    intro u t0 t1 x2 x3 y4 y6 x8 H locs ls o_t0 o_t1 hW hl h
    cases h
  | succ n ih =>
    intro u t0 t1 x2 x3 y4 y6 x8 H locs ls o_t0 o_t1 hW hl h
    exact gx_Calculator_takeMultiple_S6 F C hr hk  ih u t0 t1 x2 x3 y4 y6 x8 o_t0 o_t1 hW hl h

set_option maxHeartbeats 4000000 in
set_option maxRecDepth 20000 in
theorem gx_Calculator_takeMultiple_b0 {p : Program} {l : Launch} {e : Env} {s : State} {m : MethodId} {args : Array Value} {below : List Frame} {meth : Method} {c : Code} {D : va_G} {cA : Nat → ClassId} {hs : Nat → Nat} {z : gw_Sh} (F : Nat) {r0 : (Int32 × gw_St)} (C : gw_Cx p s m args c gb_Calculator_takeMultiple 13 R_Calculator D cA) (hr : meth.sig.returnType = (some .int)) (hk : meth.locks = false) (u : gw_St) (t0 : Nat) (t1 : Nat) (x2 : Int32) (x3 : Int32) (y4 : Int64) (o_t0 : gw_ok z t0 10) (o_t1 : gw_ok z t1 10) {H : Heap} {locs : List Loc} {ls : Array Slot} (hW : gw_Wx D cA hs z s u H locs) (hl : lv_has ls 13 [(0, .ref (hs t0)), (1, .ref (hs t1)), (2, .int x2), (3, .int x3), (4, .long y4)]) (h : gf_Calculator_takeMultiple_b0 F z   u t0 t1 x2 x3 y4 = some r0) : gw_Gi p l e gr_Calculator_takeMultiple s m args below meth c D cA hs z r0 H locs ls 0 [] := by
  obtain ⟨hx, hb, hml, hown, hts, hK⟩ := id C
  unfold gf_Calculator_takeMultiple_b0 at h
  refine lv_lconst (v := 0) hx hb gd_Calculator_takeMultiple_0 (by decide) ?_
  refine lv_lstore (lv' := [(6, .long 0), (0, .ref (hs t0)), (1, .ref (hs t1)), (2, .int x2), (3, .int x3), (4, .long y4)]) hx hb gd_Calculator_takeMultiple_1 hl (by decide) rfl (fun ls hl => ?_)
  refine lv_iconst (v := 0) hx hb gd_Calculator_takeMultiple_3 (by decide) ?_
  refine lv_istore (lv' := [(8, .int 0), (6, .long 0), (0, .ref (hs t0)), (1, .ref (hs t1)), (2, .int x2), (3, .int x3), (4, .long y4)]) hx hb gd_Calculator_takeMultiple_4 hl (by decide) rfl (fun ls hl => ?_)
  exact gx_Calculator_takeMultiple_L6 F C hr hk  F u t0 t1 x2 x3 y4 0 0 _ _ _ o_t0 o_t1 hW (lv_sub hl [2, 3, 4, 5, 6, 1, 0] rfl) h

set_option maxRecDepth 20000 in
theorem gc_Calculator_takeMultiple (l : Launch) {D : va_G} {cA : Nat → ClassId} {hs : Nat → Nat} {z : gw_Sh} (F : Nat) {u : gw_St} {r0 : (Int32 × gw_St)} {t0 : Nat} {t1 : Nat} {x2 : Int32} {x3 : Int32} {y4 : Int64} (o_t0 : gw_ok z t0 10) (o_t1 : gw_ok z t1 10) (h : gf_Calculator_takeMultiple F z u t0 t1 x2 x3 y4 = some r0) (sz : Nat) : gw_Mi l gy_Calculator_takeMultiple gb_Calculator_takeMultiple 13 (some .int) gr_Calculator_takeMultiple [.ref (hs t0), .ref (hs t1), .int x2, .int x3, .long y4] D cA hs z u sz r0 := by
  refine gw_enter (by decide) (Nat.le_of_ble_eq_true rfl) ?_
  intro p e s m below meth c ls hsz C hW hr hk _ hl
  subst hsz
  exact gx_Calculator_takeMultiple_b0 F C hr hk u t0 t1 x2 x3 y4 o_t0 o_t1 hW (lv_sub hl [0, 1, 2, 3, 4] rfl) h
-- GearDesk$Calculator.divide(LGearDesk$Whole;LGearDesk$Whole;)V
theorem gk_69 : Cond.fieldLink R_Calculator 14 R_Calculator "quotient" "LGearDesk$Whole;" ∈ gt_T := gt_m1 (List.mem_of_getElem? (i := 161) rfl) rfl
theorem gk_70 : Cond.methodLink R_Calculator 66 gy_Whole_setLong ∈ gt_T := gt_m5 (List.mem_of_getElem? (i := 108) rfl) rfl
theorem gk_71 : Cond.instanceMethod gy_Whole_setLong ∈ gt_T := gt_m2 (List.mem_of_getElem? (i := 57) rfl) rfl
theorem gk_72 : Cond.selects R_Whole gy_Whole_setLong gy_Whole_setLong ∈ gt_T := gt_m2 (List.mem_of_getElem? (i := 58) rfl) rfl
theorem gk_73 : Cond.fieldLink R_Calculator 18 R_Calculator "remainder" "LGearDesk$Whole;" ∈ gt_T := gt_m1 (List.mem_of_getElem? (i := 164) rfl) rfl
theorem gk_74 : Cond.methodLink R_Calculator 49 gy_Whole_copyFrom ∈ gt_T := gt_m5 (List.mem_of_getElem? (i := 109) rfl) rfl
theorem gk_75 : Cond.fieldLink R_Calculator 53 R_Whole "sign" "I" ∈ gt_T := gt_m1 (List.mem_of_getElem? (i := 151) rfl) rfl
theorem gk_76 : Cond.methodLink R_Calculator 91 gy_Whole_settle ∈ gt_T := gt_m5 (List.mem_of_getElem? (i := 129) rfl) rfl
theorem gk_77 : Cond.methodLink R_Calculator 95 gy_Whole_shiftDown ∈ gt_T := gt_m5 (List.mem_of_getElem? (i := 130) rfl) rfl
theorem gk_78 : Cond.instanceMethod gy_Whole_shiftDown ∈ gt_T := gt_m5 (List.mem_of_getElem? (i := 131) rfl) rfl
theorem gk_79 : Cond.selects R_Whole gy_Whole_shiftDown gy_Whole_shiftDown ∈ gt_T := gt_m5 (List.mem_of_getElem? (i := 132) rfl) rfl
theorem gk_80 : Cond.fieldLink R_Calculator 70 R_Whole "limbs" "[I" ∈ gt_T := gt_m1 (List.mem_of_getElem? (i := 144) rfl) rfl
theorem gk_81 : Cond.fieldLink R_Calculator 21 R_Calculator "divisor" "LGearDesk$Whole;" ∈ gt_T := gt_m1 (List.mem_of_getElem? (i := 166) rfl) rfl
theorem gk_82 : Cond.methodLink R_Calculator 83 gy_Calculator_guessTimes ∈ gt_T := gt_m5 (List.mem_of_getElem? (i := 122) rfl) rfl
theorem gk_83 : Cond.static gy_Calculator_guessTimes ∈ gt_T := gt_m5 (List.mem_of_getElem? (i := 123) rfl) rfl
theorem gk_84 : Cond.methodLink R_Calculator 87 gy_Calculator_takeMultiple ∈ gt_T := gt_m5 (List.mem_of_getElem? (i := 126) rfl) rfl
theorem gk_85 : Cond.static gy_Calculator_takeMultiple ∈ gt_T := gt_m5 (List.mem_of_getElem? (i := 127) rfl) rfl
theorem gk_86 : Cond.fieldLink R_Calculator 63 R_Whole "size" "I" ∈ gt_T := gt_m1 (List.mem_of_getElem? (i := 147) rfl) rfl
theorem gk_87 : Cond.methodLink R_Calculator 74 gy_Integer_numberOfLeadingZeros ∈ gt_T := gt_m5 (List.mem_of_getElem? (i := 114) rfl) rfl
theorem gk_88 : Cond.methodLink R_Calculator 79 gy_Whole_shiftUp ∈ gt_T := gt_m5 (List.mem_of_getElem? (i := 118) rfl) rfl
theorem gk_89 : Cond.instanceMethod gy_Whole_shiftUp ∈ gt_T := gt_m5 (List.mem_of_getElem? (i := 119) rfl) rfl
theorem gk_90 : Cond.selects R_Whole gy_Whole_shiftUp gy_Whole_shiftUp ∈ gt_T := gt_m5 (List.mem_of_getElem? (i := 120) rfl) rfl
def gy_Calculator_divide : MethodName := ⟨R_Calculator, "divide", "(LGearDesk$Whole;LGearDesk$Whole;)V"⟩
abbrev gb_Calculator_divide : ByteArray := prog_2_method_4_code
theorem gk_91 : Cond.code gy_Calculator_divide gb_Calculator_divide 9 none ∈ gt_T := gt_m5 (List.mem_of_getElem? (i := 107) rfl) rfl
def gr_Calculator_divide : Room := gw_rm 3 111
theorem gm_Calculator_divide : gw_Mth gy_Calculator_divide gb_Calculator_divide 9 none 2 := ⟨gk_91, gk_66, ⟨by decide +kernel, by decide +kernel⟩, by decide +kernel⟩
theorem gd_Calculator_divide_0 : decode gb_Calculator_divide 0 = .ok (.aload_n 2, 1) := by decide +kernel
theorem gd_Calculator_divide_1 : decode gb_Calculator_divide 1 = .ok (.getfield 63, 3) := by decide +kernel
theorem gd_Calculator_divide_4 : decode gb_Calculator_divide 4 = .ok (.ifCond .eq 14, 3) := by decide +kernel
theorem gd_Calculator_divide_7 : decode gb_Calculator_divide 7 = .ok (.aload_n 1, 1) := by decide +kernel
theorem gd_Calculator_divide_8 : decode gb_Calculator_divide 8 = .ok (.getfield 63, 3) := by decide +kernel
theorem gd_Calculator_divide_11 : decode gb_Calculator_divide 11 = .ok (.aload_n 2, 1) := by decide +kernel
theorem gd_Calculator_divide_12 : decode gb_Calculator_divide 12 = .ok (.getfield 63, 3) := by decide +kernel
theorem gd_Calculator_divide_15 : decode gb_Calculator_divide 15 = .ok (.if_icmp .ge 20, 3) := by decide +kernel
theorem gd_Calculator_divide_18 : decode gb_Calculator_divide 18 = .ok (.aload_n 0, 1) := by decide +kernel
theorem gd_Calculator_divide_19 : decode gb_Calculator_divide 19 = .ok (.getfield 14, 3) := by decide +kernel
theorem gd_Calculator_divide_22 : decode gb_Calculator_divide 22 = .ok (.lconst 0, 1) := by decide +kernel
theorem gd_Calculator_divide_23 : decode gb_Calculator_divide 23 = .ok (.invokevirtual 66, 3) := by decide +kernel
theorem gd_Calculator_divide_26 : decode gb_Calculator_divide 26 = .ok (.aload_n 0, 1) := by decide +kernel
theorem gd_Calculator_divide_27 : decode gb_Calculator_divide 27 = .ok (.getfield 18, 3) := by decide +kernel
theorem gd_Calculator_divide_30 : decode gb_Calculator_divide 30 = .ok (.aload_n 1, 1) := by decide +kernel
theorem gd_Calculator_divide_31 : decode gb_Calculator_divide 31 = .ok (.invokevirtual 49, 3) := by decide +kernel
theorem gd_Calculator_divide_34 : decode gb_Calculator_divide 34 = .ok (.return_, 1) := by decide +kernel
theorem gd_Calculator_divide_35 : decode gb_Calculator_divide 35 = .ok (.aload_n 2, 1) := by decide +kernel
theorem gd_Calculator_divide_36 : decode gb_Calculator_divide 36 = .ok (.getfield 70, 3) := by decide +kernel
theorem gd_Calculator_divide_39 : decode gb_Calculator_divide 39 = .ok (.aload_n 2, 1) := by decide +kernel
theorem gd_Calculator_divide_40 : decode gb_Calculator_divide 40 = .ok (.getfield 63, 3) := by decide +kernel
theorem gd_Calculator_divide_43 : decode gb_Calculator_divide 43 = .ok (.iconst 1, 1) := by decide +kernel
theorem gd_Calculator_divide_44 : decode gb_Calculator_divide 44 = .ok (.isub, 1) := by decide +kernel
theorem gd_Calculator_divide_45 : decode gb_Calculator_divide 45 = .ok (.iaload, 1) := by decide +kernel
theorem gd_Calculator_divide_46 : decode gb_Calculator_divide 46 = .ok (.invokestatic 74, 3) := by decide +kernel
theorem gd_Calculator_divide_49 : decode gb_Calculator_divide 49 = .ok (.iconst 1, 1) := by decide +kernel
theorem gd_Calculator_divide_50 : decode gb_Calculator_divide 50 = .ok (.isub, 1) := by decide +kernel
theorem gd_Calculator_divide_51 : decode gb_Calculator_divide 51 = .ok (.istore_n 3, 1) := by decide +kernel
theorem gd_Calculator_divide_52 : decode gb_Calculator_divide 52 = .ok (.aload_n 2, 1) := by decide +kernel
theorem gd_Calculator_divide_53 : decode gb_Calculator_divide 53 = .ok (.getfield 63, 3) := by decide +kernel
theorem gd_Calculator_divide_56 : decode gb_Calculator_divide 56 = .ok (.istore 4, 2) := by decide +kernel
theorem gd_Calculator_divide_58 : decode gb_Calculator_divide 58 = .ok (.aload_n 1, 1) := by decide +kernel
theorem gd_Calculator_divide_59 : decode gb_Calculator_divide 59 = .ok (.getfield 63, 3) := by decide +kernel
theorem gd_Calculator_divide_62 : decode gb_Calculator_divide 62 = .ok (.iload 4, 2) := by decide +kernel
theorem gd_Calculator_divide_64 : decode gb_Calculator_divide 64 = .ok (.isub, 1) := by decide +kernel
theorem gd_Calculator_divide_65 : decode gb_Calculator_divide 65 = .ok (.iconst 1, 1) := by decide +kernel
theorem gd_Calculator_divide_66 : decode gb_Calculator_divide 66 = .ok (.iadd, 1) := by decide +kernel
theorem gd_Calculator_divide_67 : decode gb_Calculator_divide 67 = .ok (.istore 5, 2) := by decide +kernel
theorem gd_Calculator_divide_69 : decode gb_Calculator_divide 69 = .ok (.aload_n 0, 1) := by decide +kernel
theorem gd_Calculator_divide_70 : decode gb_Calculator_divide 70 = .ok (.getfield 21, 3) := by decide +kernel
theorem gd_Calculator_divide_73 : decode gb_Calculator_divide 73 = .ok (.aload_n 2, 1) := by decide +kernel
theorem gd_Calculator_divide_74 : decode gb_Calculator_divide 74 = .ok (.iload_n 3, 1) := by decide +kernel
theorem gd_Calculator_divide_75 : decode gb_Calculator_divide 75 = .ok (.invokevirtual 79, 3) := by decide +kernel
theorem gd_Calculator_divide_78 : decode gb_Calculator_divide 78 = .ok (.aload_n 0, 1) := by decide +kernel
theorem gd_Calculator_divide_79 : decode gb_Calculator_divide 79 = .ok (.getfield 18, 3) := by decide +kernel
theorem gd_Calculator_divide_82 : decode gb_Calculator_divide 82 = .ok (.aload_n 1, 1) := by decide +kernel
theorem gd_Calculator_divide_83 : decode gb_Calculator_divide 83 = .ok (.iload_n 3, 1) := by decide +kernel
theorem gd_Calculator_divide_84 : decode gb_Calculator_divide 84 = .ok (.invokevirtual 79, 3) := by decide +kernel
theorem gd_Calculator_divide_87 : decode gb_Calculator_divide 87 = .ok (.iload 5, 2) := by decide +kernel
theorem gd_Calculator_divide_89 : decode gb_Calculator_divide 89 = .ok (.iconst 1, 1) := by decide +kernel
theorem gd_Calculator_divide_90 : decode gb_Calculator_divide 90 = .ok (.isub, 1) := by decide +kernel
theorem gd_Calculator_divide_91 : decode gb_Calculator_divide 91 = .ok (.istore 6, 2) := by decide +kernel
theorem gd_Calculator_divide_93 : decode gb_Calculator_divide 93 = .ok (.iload 6, 2) := by decide +kernel
theorem gd_Calculator_divide_95 : decode gb_Calculator_divide 95 = .ok (.ifCond .lt 65, 3) := by decide +kernel
theorem gd_Calculator_divide_98 : decode gb_Calculator_divide 98 = .ok (.aload_n 0, 1) := by decide +kernel
theorem gd_Calculator_divide_99 : decode gb_Calculator_divide 99 = .ok (.getfield 18, 3) := by decide +kernel
theorem gd_Calculator_divide_102 : decode gb_Calculator_divide 102 = .ok (.getfield 70, 3) := by decide +kernel
theorem gd_Calculator_divide_105 : decode gb_Calculator_divide 105 = .ok (.aload_n 0, 1) := by decide +kernel
theorem gd_Calculator_divide_106 : decode gb_Calculator_divide 106 = .ok (.getfield 21, 3) := by decide +kernel
theorem gd_Calculator_divide_109 : decode gb_Calculator_divide 109 = .ok (.getfield 70, 3) := by decide +kernel
theorem gd_Calculator_divide_112 : decode gb_Calculator_divide 112 = .ok (.iload 6, 2) := by decide +kernel
theorem gd_Calculator_divide_114 : decode gb_Calculator_divide 114 = .ok (.iload 4, 2) := by decide +kernel
theorem gd_Calculator_divide_116 : decode gb_Calculator_divide 116 = .ok (.invokestatic 83, 3) := by decide +kernel
theorem gd_Calculator_divide_119 : decode gb_Calculator_divide 119 = .ok (.lstore 7, 2) := by decide +kernel
theorem gd_Calculator_divide_121 : decode gb_Calculator_divide 121 = .ok (.aload_n 0, 1) := by decide +kernel
theorem gd_Calculator_divide_122 : decode gb_Calculator_divide 122 = .ok (.getfield 14, 3) := by decide +kernel
theorem gd_Calculator_divide_125 : decode gb_Calculator_divide 125 = .ok (.getfield 70, 3) := by decide +kernel
theorem gd_Calculator_divide_128 : decode gb_Calculator_divide 128 = .ok (.iload 6, 2) := by decide +kernel
theorem gd_Calculator_divide_130 : decode gb_Calculator_divide 130 = .ok (.aload_n 0, 1) := by decide +kernel
theorem gd_Calculator_divide_131 : decode gb_Calculator_divide 131 = .ok (.getfield 18, 3) := by decide +kernel
theorem gd_Calculator_divide_134 : decode gb_Calculator_divide 134 = .ok (.getfield 70, 3) := by decide +kernel
theorem gd_Calculator_divide_137 : decode gb_Calculator_divide 137 = .ok (.aload_n 0, 1) := by decide +kernel
theorem gd_Calculator_divide_138 : decode gb_Calculator_divide 138 = .ok (.getfield 21, 3) := by decide +kernel
theorem gd_Calculator_divide_141 : decode gb_Calculator_divide 141 = .ok (.getfield 70, 3) := by decide +kernel
theorem gd_Calculator_divide_144 : decode gb_Calculator_divide 144 = .ok (.iload 6, 2) := by decide +kernel
theorem gd_Calculator_divide_146 : decode gb_Calculator_divide 146 = .ok (.iload 4, 2) := by decide +kernel
theorem gd_Calculator_divide_148 : decode gb_Calculator_divide 148 = .ok (.lload 7, 2) := by decide +kernel
theorem gd_Calculator_divide_150 : decode gb_Calculator_divide 150 = .ok (.invokestatic 87, 3) := by decide +kernel
theorem gd_Calculator_divide_153 : decode gb_Calculator_divide 153 = .ok (.iastore, 1) := by decide +kernel
theorem gd_Calculator_divide_154 : decode gb_Calculator_divide 154 = .ok (.iinc 6 (-1), 3) := by decide +kernel
theorem gd_Calculator_divide_157 : decode gb_Calculator_divide 157 = .ok (.goto (-64), 3) := by decide +kernel
theorem gd_Calculator_divide_160 : decode gb_Calculator_divide 160 = .ok (.aload_n 0, 1) := by decide +kernel
theorem gd_Calculator_divide_161 : decode gb_Calculator_divide 161 = .ok (.getfield 14, 3) := by decide +kernel
theorem gd_Calculator_divide_164 : decode gb_Calculator_divide 164 = .ok (.iload 5, 2) := by decide +kernel
theorem gd_Calculator_divide_166 : decode gb_Calculator_divide 166 = .ok (.aload_n 1, 1) := by decide +kernel
theorem gd_Calculator_divide_167 : decode gb_Calculator_divide 167 = .ok (.getfield 53, 3) := by decide +kernel
theorem gd_Calculator_divide_170 : decode gb_Calculator_divide 170 = .ok (.aload_n 2, 1) := by decide +kernel
theorem gd_Calculator_divide_171 : decode gb_Calculator_divide 171 = .ok (.getfield 53, 3) := by decide +kernel
theorem gd_Calculator_divide_174 : decode gb_Calculator_divide 174 = .ok (.imul, 1) := by decide +kernel
theorem gd_Calculator_divide_175 : decode gb_Calculator_divide 175 = .ok (.invokevirtual 91, 3) := by decide +kernel
theorem gd_Calculator_divide_178 : decode gb_Calculator_divide 178 = .ok (.aload_n 0, 1) := by decide +kernel
theorem gd_Calculator_divide_179 : decode gb_Calculator_divide 179 = .ok (.getfield 18, 3) := by decide +kernel
theorem gd_Calculator_divide_182 : decode gb_Calculator_divide 182 = .ok (.iload 4, 2) := by decide +kernel
theorem gd_Calculator_divide_184 : decode gb_Calculator_divide 184 = .ok (.iload_n 3, 1) := by decide +kernel
theorem gd_Calculator_divide_185 : decode gb_Calculator_divide 185 = .ok (.invokevirtual 95, 3) := by decide +kernel
theorem gd_Calculator_divide_188 : decode gb_Calculator_divide 188 = .ok (.aload_n 0, 1) := by decide +kernel
theorem gd_Calculator_divide_189 : decode gb_Calculator_divide 189 = .ok (.getfield 18, 3) := by decide +kernel
theorem gd_Calculator_divide_192 : decode gb_Calculator_divide 192 = .ok (.iload 4, 2) := by decide +kernel
theorem gd_Calculator_divide_194 : decode gb_Calculator_divide 194 = .ok (.aload_n 1, 1) := by decide +kernel
theorem gd_Calculator_divide_195 : decode gb_Calculator_divide 195 = .ok (.getfield 53, 3) := by decide +kernel
theorem gd_Calculator_divide_198 : decode gb_Calculator_divide 198 = .ok (.invokevirtual 91, 3) := by decide +kernel
theorem gd_Calculator_divide_201 : decode gb_Calculator_divide 201 = .ok (.return_, 1) := by decide +kernel
def gf_Calculator_divide_b18 (F : Nat) (z : gw_Sh)  (u : gw_St) (t0 : Nat) (t1 : Nat) : Option gw_St :=
  gf_nn (u.2.2 t0 0) fun q1 => (gf_Whole_setLong F z u q1 (0 : Int64)).bind fun u3 => gf_nn (u3.2.2 t0 1) fun q5 => (gf_Whole_copyFrom F z u3 q5 t1).bind fun u7 => some u7
def gf_Calculator_divide_S93 (F : Nat) (z : gw_Sh)  (rc_93 : gw_St → Nat → Nat → Nat → Int32 → Int32 → Int32 → Int32 → Option gw_St) (u : gw_St) (t0 : Nat) (t1 : Nat) (t2 : Nat) (x3 : Int32) (x4 : Int32) (x5 : Int32) (x6 : Int32) : Option gw_St :=
  if x6 < 0 then (gf_nn (u.2.2 t0 0) fun q10 => (gf_Whole_settle F z u q10 x5 ((u.1 t1 2) * (u.1 t2 2))).bind fun u12 => gf_nn (u12.2.2 t0 1) fun q14 => (gf_Whole_shiftDown F z u12 q14 x4 x3).bind fun u16 => gf_nn (u16.2.2 t0 1) fun q18 => (gf_Whole_settle F z u16 q18 x4 (u16.1 t1 2)).bind fun u20 => some u20) else (gf_nn (u.2.2 t0 1) fun q22 => gf_nn (u.2.2 q22 0) fun q24 => gf_nn (u.2.2 t0 2) fun q26 => gf_nn (u.2.2 q26 0) fun q28 => gf_cl (gf_Calculator_guessTimes F z u q24 q28 x6 x4) fun a32 u30 => gf_nn (u30.2.2 t0 0) fun q33 => gf_nn (u30.2.2 q33 0) fun q35 => gf_nn (u30.2.2 t0 1) fun q37 => gf_nn (u30.2.2 q37 0) fun q39 => gf_nn (u30.2.2 t0 2) fun q41 => gf_nn (u30.2.2 q41 0) fun q43 => gf_cl (gf_Calculator_takeMultiple F z u30 q39 q43 x6 x4 a32) fun a47 u45 => if (x6 < 0 ∨ z.2.2 q35 ≤ (x6).toNatClampNeg) then none else gf_nm (gw_wi u45 q35 (x6).toNatClampNeg a47) fun u49 => gf_nm (x6 + (-1)) fun a51 => rc_93 u49 t0 t1 t2 x3 x4 x5 a51)
def gf_Calculator_divide_L93 (F : Nat) (z : gw_Sh)  : Nat → gw_St → Nat → Nat → Nat → Int32 → Int32 → Int32 → Int32 → Option gw_St
  | 0 => fun _ _ _ _ _ _ _ _ => none
  | n + 1 => fun u t0 t1 t2 x3 x4 x5 x6 => gf_Calculator_divide_S93 F z  (gf_Calculator_divide_L93 F z  n) u t0 t1 t2 x3 x4 x5 x6
def gf_Calculator_divide_b0 (F : Nat) (z : gw_Sh)  (u : gw_St) (t0 : Nat) (t1 : Nat) (t2 : Nat) : Option gw_St :=
  if (u.1 t2 1) = 0 then (gf_Calculator_divide_b18 F z  u t0 t1) else (if (u.1 t2 1) ≤ (u.1 t1 1) then (gf_nn (u.2.2 t2 0) fun q55 => if (((u.1 t2 1) - (1 : Int32)) < 0 ∨ z.2.2 q55 ≤ (((u.1 t2 1) - (1 : Int32))).toNatClampNeg) then none else gf_cl (gf_Integer_numberOfLeadingZeros F z u (u.1 q55 (((u.1 t2 1) - (1 : Int32))).toNatClampNeg)) fun a60 u58 => gf_nm (a60 - (1 : Int32)) fun a61 => gf_nm (u58.1 t2 1) fun a63 => gf_nm (((u58.1 t1 1) - a63) + (1 : Int32)) fun a65 => gf_nn (u58.2.2 t0 2) fun q67 => (gf_Whole_shiftUp F z u58 q67 t2 a61).bind fun u69 => gf_nn (u69.2.2 t0 1) fun q71 => (gf_Whole_shiftUp F z u69 q71 t1 a61).bind fun u73 => gf_nm (a65 - (1 : Int32)) fun a75 => gf_Calculator_divide_L93 F z  F u73 t0 t1 t2 a61 a63 a65 a75) else (gf_Calculator_divide_b18 F z  u t0 t1))
def gf_Calculator_divide (F : Nat) (z : gw_Sh) (u : gw_St) (t0 : Nat) (t1 : Nat) (t2 : Nat) : Option gw_St := gf_Calculator_divide_b0 F z  u t0 t1 t2
set_option maxHeartbeats 4000000 in
set_option maxRecDepth 20000 in
theorem gx_Calculator_divide_b18 {p : Program} {l : Launch} {e : Env} {s : State} {m : MethodId} {args : Array Value} {below : List Frame} {meth : Method} {c : Code} {D : va_G} {cA : Nat → ClassId} {hs : Nat → Nat} {z : gw_Sh} (F : Nat) {r0 : gw_St} (C : gw_Cx p s m args c gb_Calculator_divide 9 R_Calculator D cA) (hr : meth.sig.returnType = none) (hk : meth.locks = false) (u : gw_St) (t0 : Nat) (t1 : Nat) (o_t0 : gw_ok z t0 7) (o_t1 : gw_ok z t1 8) {H : Heap} {locs : List Loc} {ls : Array Slot} (hW : gw_Wx D cA hs z s u H locs) (hl : lv_has ls 9 [(0, .ref (hs t0)), (1, .ref (hs t1))]) (h : gf_Calculator_divide_b18 F z   u t0 t1 = some r0) : gw_Gv p l e gr_Calculator_divide s m args below meth c D cA hs z r0 H locs ls 18 [] := by
  obtain ⟨hx, hb, hml, hown, hts, hK⟩ := id C
  unfold gf_Calculator_divide_b18 at h
  refine lv_aload_n hx hb gd_Calculator_divide_18 rfl (lv_at hl 0 rfl) ?_
  obtain ⟨q1, e2, h⟩ := gf_nn_ok h
  refine gw_getr (k := 0) (ty := 8) (ref := R_Calculator) C hW o_t0 (by decide) rfl gi_Calculator rfl (by decide) rfl rfl gk_69 gd_Calculator_divide_19 e2 ?_
  have o_q1 := hW.ref (d := 8) o_t0 e2 rfl
  refine lv_lconst (v := 0) hx hb gd_Calculator_divide_22 (by decide) ?_
  obtain ⟨u3, d4, h⟩ := gf_bd_ok h
  refine gw_callVv (K := R_Whole) (As := [.long (0 : Int64)]) (rest := []) C hW (fun _ h => Or.inr h) hl.1 gm_Whole_setLong (gc_Whole_setLong l F o_q1 d4 _) gk_70 gk_71 gk_72 o_q1 (by decide) rfl rfl rfl ⟨Nat.le_of_ble_eq_true rfl, Nat.le_of_ble_eq_true rfl⟩ ⟨Nat.zero_le _, Nat.zero_le _⟩ rfl rfl (Nat.le_of_ble_eq_true rfl) gd_Calculator_divide_23 (fun H locs hW => ?_)
  refine lv_aload_n hx hb gd_Calculator_divide_26 rfl (lv_at hl 0 rfl) ?_
  obtain ⟨q5, e6, h⟩ := gf_nn_ok h
  refine gw_getr (k := 1) (ty := 8) (ref := R_Calculator) C hW o_t0 (by decide) rfl gi_Calculator rfl (by decide) rfl rfl gk_73 gd_Calculator_divide_27 e6 ?_
  have o_q5 := hW.ref (d := 8) o_t0 e6 rfl
  refine lv_aload_n hx hb gd_Calculator_divide_30 rfl (lv_at hl 1 rfl) ?_
  obtain ⟨u7, d8, h⟩ := gf_bd_ok h
  refine gw_callVv (K := R_Whole) (As := [.ref (hs t1)]) (rest := []) C hW (fun _ h => Or.inr h) hl.1 gm_Whole_copyFrom (gc_Whole_copyFrom l F o_q5 o_t1 d8 _) gk_74 gk_62 gk_63 o_q5 (by decide) rfl rfl rfl ⟨Nat.le_of_ble_eq_true rfl, Nat.le_of_ble_eq_true rfl⟩ ⟨Nat.zero_le _, Nat.zero_le _⟩ rfl rfl (Nat.le_of_ble_eq_true rfl) gd_Calculator_divide_31 (fun H locs hW => ?_)
  obtain rfl := Option.some.inj h
  exact gw_vret C hW hr hk gd_Calculator_divide_34

set_option maxHeartbeats 4000000 in
set_option maxRecDepth 20000 in
theorem gx_Calculator_divide_S93 {p : Program} {l : Launch} {e : Env} {s : State} {m : MethodId} {args : Array Value} {below : List Frame} {meth : Method} {c : Code} {D : va_G} {cA : Nat → ClassId} {hs : Nat → Nat} {z : gw_Sh} (F : Nat) {r0 : gw_St} (C : gw_Cx p s m args c gb_Calculator_divide 9 R_Calculator D cA) (hr : meth.sig.returnType = none) (hk : meth.locks = false) {rc_93 : gw_St → Nat → Nat → Nat → Int32 → Int32 → Int32 → Int32 → Option gw_St} (k_93 : ∀ (u : gw_St) (t0 : Nat) (t1 : Nat) (t2 : Nat) (x3 : Int32) (x4 : Int32) (x5 : Int32) (x6 : Int32) (H : Heap) (locs : List Loc) (ls : Array Slot), gw_ok z t0 7 → gw_ok z t1 8 → gw_ok z t2 8 → gw_Wx D cA hs z s u H locs → lv_has ls 9 [(0, .ref (hs t0)), (1, .ref (hs t1)), (2, .ref (hs t2)), (3, .int x3), (4, .int x4), (5, .int x5), (6, .int x6)] → rc_93 u t0 t1 t2 x3 x4 x5 x6 = some r0 → gw_Gv p l e gr_Calculator_divide s m args below meth c D cA hs z r0 H locs ls 93 []) (u : gw_St) (t0 : Nat) (t1 : Nat) (t2 : Nat) (x3 : Int32) (x4 : Int32) (x5 : Int32) (x6 : Int32) (o_t0 : gw_ok z t0 7) (o_t1 : gw_ok z t1 8) (o_t2 : gw_ok z t2 8) {H : Heap} {locs : List Loc} {ls : Array Slot} (hW : gw_Wx D cA hs z s u H locs) (hl : lv_has ls 9 [(0, .ref (hs t0)), (1, .ref (hs t1)), (2, .ref (hs t2)), (3, .int x3), (4, .int x4), (5, .int x5), (6, .int x6)]) (h : gf_Calculator_divide_S93 F z  rc_93 u t0 t1 t2 x3 x4 x5 x6 = some r0) : gw_Gv p l e gr_Calculator_divide s m args below meth c D cA hs z r0 H locs ls 93 [] := by
  obtain ⟨hx, hb, hml, hown, hts, hK⟩ := id C
  unfold gf_Calculator_divide_S93 at h
  refine lv_iload hx hb gd_Calculator_divide_93 (lv_at hl 6 rfl) ?_
  refine lv_if_lt (tgt := 160) hx hb gd_Calculator_divide_95 (by decide) (fun c9 => ?_) (fun c9 => ?_)
  · have h := gf_t c9 h
    refine lv_aload_n hx hb gd_Calculator_divide_160 rfl (lv_at hl 0 rfl) ?_
    obtain ⟨q10, e11, h⟩ := gf_nn_ok h
    refine gw_getr (k := 0) (ty := 8) (ref := R_Calculator) C hW o_t0 (by decide) rfl gi_Calculator rfl (by decide) rfl rfl gk_69 gd_Calculator_divide_161 e11 ?_
    have o_q10 := hW.ref (d := 8) o_t0 e11 rfl
    refine lv_iload hx hb gd_Calculator_divide_164 (lv_at hl 5 rfl) ?_
    refine lv_aload_n hx hb gd_Calculator_divide_166 rfl (lv_at hl 1 rfl) ?_
    refine gw_geti (k := 2) (ref := R_Whole) C hW o_t1 (by decide) rfl gi_Whole rfl (by decide) rfl rfl gk_75 gd_Calculator_divide_167 ?_
    refine lv_aload_n hx hb gd_Calculator_divide_170 rfl (lv_at hl 2 rfl) ?_
    refine gw_geti (k := 2) (ref := R_Whole) C hW o_t2 (by decide) rfl gi_Whole rfl (by decide) rfl rfl gk_75 gd_Calculator_divide_171 ?_
    refine lv_imul hx hb gd_Calculator_divide_174 ?_
    obtain ⟨u12, d13, h⟩ := gf_bd_ok h
    refine gw_callVv (K := R_Whole) (As := [.int x5, .int ((u.1 t1 2) * (u.1 t2 2))]) (rest := []) C hW (fun _ h => Or.inr h) hl.1 gm_Whole_settle (gc_Whole_settle l F o_q10 d13 _) gk_76 gk_21 gk_22 o_q10 (by decide) rfl rfl rfl ⟨Nat.le_of_ble_eq_true rfl, Nat.le_of_ble_eq_true rfl⟩ ⟨Nat.zero_le _, Nat.zero_le _⟩ rfl rfl (Nat.le_of_ble_eq_true rfl) gd_Calculator_divide_175 (fun H locs hW => ?_)
    refine lv_aload_n hx hb gd_Calculator_divide_178 rfl (lv_at hl 0 rfl) ?_
    obtain ⟨q14, e15, h⟩ := gf_nn_ok h
    refine gw_getr (k := 1) (ty := 8) (ref := R_Calculator) C hW o_t0 (by decide) rfl gi_Calculator rfl (by decide) rfl rfl gk_73 gd_Calculator_divide_179 e15 ?_
    have o_q14 := hW.ref (d := 8) o_t0 e15 rfl
    refine lv_iload hx hb gd_Calculator_divide_182 (lv_at hl 4 rfl) ?_
    refine lv_iload_n hx hb gd_Calculator_divide_184 rfl (lv_at hl 3 rfl) ?_
    obtain ⟨u16, d17, h⟩ := gf_bd_ok h
    refine gw_callVv (K := R_Whole) (As := [.int x4, .int x3]) (rest := []) C hW (fun _ h => Or.inr h) hl.1 gm_Whole_shiftDown (gc_Whole_shiftDown l F o_q14 d17 _) gk_77 gk_78 gk_79 o_q14 (by decide) rfl rfl rfl ⟨Nat.le_of_ble_eq_true rfl, Nat.le_of_ble_eq_true rfl⟩ ⟨Nat.zero_le _, Nat.zero_le _⟩ rfl rfl (Nat.le_of_ble_eq_true rfl) gd_Calculator_divide_185 (fun H locs hW => ?_)
    refine lv_aload_n hx hb gd_Calculator_divide_188 rfl (lv_at hl 0 rfl) ?_
    obtain ⟨q18, e19, h⟩ := gf_nn_ok h
    refine gw_getr (k := 1) (ty := 8) (ref := R_Calculator) C hW o_t0 (by decide) rfl gi_Calculator rfl (by decide) rfl rfl gk_73 gd_Calculator_divide_189 e19 ?_
    have o_q18 := hW.ref (d := 8) o_t0 e19 rfl
    refine lv_iload hx hb gd_Calculator_divide_192 (lv_at hl 4 rfl) ?_
    refine lv_aload_n hx hb gd_Calculator_divide_194 rfl (lv_at hl 1 rfl) ?_
    refine gw_geti (k := 2) (ref := R_Whole) C hW o_t1 (by decide) rfl gi_Whole rfl (by decide) rfl rfl gk_75 gd_Calculator_divide_195 ?_
    obtain ⟨u20, d21, h⟩ := gf_bd_ok h
    refine gw_callVv (K := R_Whole) (As := [.int x4, .int (u16.1 t1 2)]) (rest := []) C hW (fun _ h => Or.inr h) hl.1 gm_Whole_settle (gc_Whole_settle l F o_q18 d21 _) gk_76 gk_21 gk_22 o_q18 (by decide) rfl rfl rfl ⟨Nat.le_of_ble_eq_true rfl, Nat.le_of_ble_eq_true rfl⟩ ⟨Nat.zero_le _, Nat.zero_le _⟩ rfl rfl (Nat.le_of_ble_eq_true rfl) gd_Calculator_divide_198 (fun H locs hW => ?_)
    obtain rfl := Option.some.inj h
    exact gw_vret C hW hr hk gd_Calculator_divide_201
  · have h := gf_f c9 h
    refine lv_aload_n hx hb gd_Calculator_divide_98 rfl (lv_at hl 0 rfl) ?_
    obtain ⟨q22, e23, h⟩ := gf_nn_ok h
    refine gw_getr (k := 1) (ty := 8) (ref := R_Calculator) C hW o_t0 (by decide) rfl gi_Calculator rfl (by decide) rfl rfl gk_73 gd_Calculator_divide_99 e23 ?_
    have o_q22 := hW.ref (d := 8) o_t0 e23 rfl
    obtain ⟨q24, e25, h⟩ := gf_nn_ok h
    refine gw_getr (k := 0) (ty := 10) (ref := R_Whole) C hW o_q22 (by decide) rfl gi_Whole rfl (by decide) rfl rfl gk_80 gd_Calculator_divide_102 e25 ?_
    have o_q24 := hW.ref (d := 10) o_q22 e25 rfl
    refine lv_aload_n hx hb gd_Calculator_divide_105 rfl (lv_at hl 0 rfl) ?_
    obtain ⟨q26, e27, h⟩ := gf_nn_ok h
    refine gw_getr (k := 2) (ty := 8) (ref := R_Calculator) C hW o_t0 (by decide) rfl gi_Calculator rfl (by decide) rfl rfl gk_81 gd_Calculator_divide_106 e27 ?_
    have o_q26 := hW.ref (d := 8) o_t0 e27 rfl
    obtain ⟨q28, e29, h⟩ := gf_nn_ok h
    refine gw_getr (k := 0) (ty := 10) (ref := R_Whole) C hW o_q26 (by decide) rfl gi_Whole rfl (by decide) rfl rfl gk_80 gd_Calculator_divide_109 e29 ?_
    have o_q28 := hW.ref (d := 10) o_q26 e29 rfl
    refine lv_iload hx hb gd_Calculator_divide_112 (lv_at hl 6 rfl) ?_
    refine lv_iload hx hb gd_Calculator_divide_114 (lv_at hl 4 rfl) ?_
    obtain ⟨a32, u30, d31, h⟩ := gf_cl_ok h
    refine gw_callSl (As := [.ref (hs q24), .ref (hs q28), .int x6, .int x4]) (rest := []) C hW (fun _ h => Or.inr h) hl.1 gm_Calculator_guessTimes (gc_Calculator_guessTimes l F o_q24 o_q28 d31 _) gk_82 gk_83 rfl rfl ⟨Nat.le_of_ble_eq_true rfl, Nat.le_of_ble_eq_true rfl⟩ ⟨Nat.zero_le _, Nat.zero_le _⟩ rfl rfl (Nat.le_of_ble_eq_true rfl) gd_Calculator_divide_116 (fun H locs hW => ?_)
    refine lv_lstore (lv' := [(7, .long a32), (0, .ref (hs t0)), (1, .ref (hs t1)), (2, .ref (hs t2)), (3, .int x3), (4, .int x4), (5, .int x5), (6, .int x6)]) hx hb gd_Calculator_divide_119 hl (by decide) rfl (fun ls hl => ?_)
    refine lv_aload_n hx hb gd_Calculator_divide_121 rfl (lv_at hl 1 rfl) ?_
    obtain ⟨q33, e34, h⟩ := gf_nn_ok h
    refine gw_getr (k := 0) (ty := 8) (ref := R_Calculator) C hW o_t0 (by decide) rfl gi_Calculator rfl (by decide) rfl rfl gk_69 gd_Calculator_divide_122 e34 ?_
    have o_q33 := hW.ref (d := 8) o_t0 e34 rfl
    obtain ⟨q35, e36, h⟩ := gf_nn_ok h
    refine gw_getr (k := 0) (ty := 10) (ref := R_Whole) C hW o_q33 (by decide) rfl gi_Whole rfl (by decide) rfl rfl gk_80 gd_Calculator_divide_125 e36 ?_
    have o_q35 := hW.ref (d := 10) o_q33 e36 rfl
    refine lv_iload hx hb gd_Calculator_divide_128 (lv_at hl 7 rfl) ?_
    refine lv_aload_n hx hb gd_Calculator_divide_130 rfl (lv_at hl 1 rfl) ?_
    obtain ⟨q37, e38, h⟩ := gf_nn_ok h
    refine gw_getr (k := 1) (ty := 8) (ref := R_Calculator) C hW o_t0 (by decide) rfl gi_Calculator rfl (by decide) rfl rfl gk_73 gd_Calculator_divide_131 e38 ?_
    have o_q37 := hW.ref (d := 8) o_t0 e38 rfl
    obtain ⟨q39, e40, h⟩ := gf_nn_ok h
    refine gw_getr (k := 0) (ty := 10) (ref := R_Whole) C hW o_q37 (by decide) rfl gi_Whole rfl (by decide) rfl rfl gk_80 gd_Calculator_divide_134 e40 ?_
    have o_q39 := hW.ref (d := 10) o_q37 e40 rfl
    refine lv_aload_n hx hb gd_Calculator_divide_137 rfl (lv_at hl 1 rfl) ?_
    obtain ⟨q41, e42, h⟩ := gf_nn_ok h
    refine gw_getr (k := 2) (ty := 8) (ref := R_Calculator) C hW o_t0 (by decide) rfl gi_Calculator rfl (by decide) rfl rfl gk_81 gd_Calculator_divide_138 e42 ?_
    have o_q41 := hW.ref (d := 8) o_t0 e42 rfl
    obtain ⟨q43, e44, h⟩ := gf_nn_ok h
    refine gw_getr (k := 0) (ty := 10) (ref := R_Whole) C hW o_q41 (by decide) rfl gi_Whole rfl (by decide) rfl rfl gk_80 gd_Calculator_divide_141 e44 ?_
    have o_q43 := hW.ref (d := 10) o_q41 e44 rfl
    refine lv_iload hx hb gd_Calculator_divide_144 (lv_at hl 7 rfl) ?_
    refine lv_iload hx hb gd_Calculator_divide_146 (lv_at hl 5 rfl) ?_
    refine lv_lload hx hb gd_Calculator_divide_148 (lv_at hl 0 rfl) ?_
    obtain ⟨a47, u45, d46, h⟩ := gf_cl_ok h
    refine gw_callSi (As := [.ref (hs q39), .ref (hs q43), .int x6, .int x4, .long a32]) (rest := [.int x6, .ref (hs q35)]) C hW (fun _ h => Or.inr h) hl.1 gm_Calculator_takeMultiple (gc_Calculator_takeMultiple l F o_q39 o_q43 d46 _) gk_84 gk_85 rfl rfl ⟨Nat.le_of_ble_eq_true rfl, Nat.le_of_ble_eq_true rfl⟩ ⟨Nat.zero_le _, Nat.zero_le _⟩ rfl rfl (Nat.le_of_ble_eq_true rfl) gd_Calculator_divide_150 (fun H locs hW => ?_)
    obtain ⟨g48, h⟩ := gf_if_ok h
    refine gw_iast C hW o_q35 g48 gd_Calculator_divide_153 (fun u49 H locs e50 hW => ?_)
    have h := gf_nm_ok e50 h
    obtain ⟨a51, e52⟩ : ∃ y : Int32, y = x6 + (-1) := ⟨_, rfl⟩
    have h := gf_nm_ok e52 h
    refine lv_iinc (v := a51) (lv' := [(6, .int a51), (7, .long a32), (0, .ref (hs t0)), (1, .ref (hs t1)), (2, .ref (hs t2)), (3, .int x3), (4, .int x4), (5, .int x5)]) hx hb gd_Calculator_divide_154 hl (k := 7) rfl (by rw [e52]; rfl) (by decide) rfl (fun ls hl => ?_)
    refine lv_goto (tgt := 93) hx hb gd_Calculator_divide_157 (by decide) ?_
    exact k_93 u49 t0 t1 t2 x3 x4 x5 a51 _ _ _ o_t0 o_t1 o_t2 hW (lv_sub hl [2, 3, 4, 5, 6, 7, 0] rfl) h
set_option maxHeartbeats 4000000 in
set_option maxRecDepth 20000 in
theorem gx_Calculator_divide_L93 {p : Program} {l : Launch} {e : Env} {s : State} {m : MethodId} {args : Array Value} {below : List Frame} {meth : Method} {c : Code} {D : va_G} {cA : Nat → ClassId} {hs : Nat → Nat} {z : gw_Sh} (F : Nat) {r0 : gw_St} (C : gw_Cx p s m args c gb_Calculator_divide 9 R_Calculator D cA) (hr : meth.sig.returnType = none) (hk : meth.locks = false) : ∀ (n : Nat), ∀ (u : gw_St) (t0 : Nat) (t1 : Nat) (t2 : Nat) (x3 : Int32) (x4 : Int32) (x5 : Int32) (x6 : Int32) (H : Heap) (locs : List Loc) (ls : Array Slot), gw_ok z t0 7 → gw_ok z t1 8 → gw_ok z t2 8 → gw_Wx D cA hs z s u H locs → lv_has ls 9 [(0, .ref (hs t0)), (1, .ref (hs t1)), (2, .ref (hs t2)), (3, .int x3), (4, .int x4), (5, .int x5), (6, .int x6)] → gf_Calculator_divide_L93 F z  n u t0 t1 t2 x3 x4 x5 x6 = some r0 → gw_Gv p l e gr_Calculator_divide s m args below meth c D cA hs z r0 H locs ls 93 [] := by
  intro n
  induction n with
  | zero =>
    intro u t0 t1 t2 x3 x4 x5 x6 H locs ls o_t0 o_t1 o_t2 hW hl h
    cases h
  | succ n ih =>
    intro u t0 t1 t2 x3 x4 x5 x6 H locs ls o_t0 o_t1 o_t2 hW hl h
    exact gx_Calculator_divide_S93 F C hr hk  ih u t0 t1 t2 x3 x4 x5 x6 o_t0 o_t1 o_t2 hW hl h

set_option maxHeartbeats 4000000 in
set_option maxRecDepth 20000 in
theorem gx_Calculator_divide_b0 {p : Program} {l : Launch} {e : Env} {s : State} {m : MethodId} {args : Array Value} {below : List Frame} {meth : Method} {c : Code} {D : va_G} {cA : Nat → ClassId} {hs : Nat → Nat} {z : gw_Sh} (F : Nat) {r0 : gw_St} (C : gw_Cx p s m args c gb_Calculator_divide 9 R_Calculator D cA) (hr : meth.sig.returnType = none) (hk : meth.locks = false) (u : gw_St) (t0 : Nat) (t1 : Nat) (t2 : Nat) (o_t0 : gw_ok z t0 7) (o_t1 : gw_ok z t1 8) (o_t2 : gw_ok z t2 8) {H : Heap} {locs : List Loc} {ls : Array Slot} (hW : gw_Wx D cA hs z s u H locs) (hl : lv_has ls 9 [(0, .ref (hs t0)), (1, .ref (hs t1)), (2, .ref (hs t2))]) (h : gf_Calculator_divide_b0 F z   u t0 t1 t2 = some r0) : gw_Gv p l e gr_Calculator_divide s m args below meth c D cA hs z r0 H locs ls 0 [] := by
  obtain ⟨hx, hb, hml, hown, hts, hK⟩ := id C
  unfold gf_Calculator_divide_b0 at h
  refine lv_aload_n hx hb gd_Calculator_divide_0 rfl (lv_at hl 2 rfl) ?_
  refine gw_geti (k := 1) (ref := R_Whole) C hW o_t2 (by decide) rfl gi_Whole rfl (by decide) rfl rfl gk_86 gd_Calculator_divide_1 ?_
  refine lv_if_eq (tgt := 18) hx hb gd_Calculator_divide_4 (by decide) (fun c53 => ?_) (fun c53 => ?_)
  · have h := gf_t c53 h
    exact gx_Calculator_divide_b18 F C hr hk  u t0 t1 o_t0 o_t1 hW (lv_sub hl [0, 1] rfl) h
  · have h := gf_f c53 h
    refine lv_aload_n hx hb gd_Calculator_divide_7 rfl (lv_at hl 1 rfl) ?_
    refine gw_geti (k := 1) (ref := R_Whole) C hW o_t1 (by decide) rfl gi_Whole rfl (by decide) rfl rfl gk_86 gd_Calculator_divide_8 ?_
    refine lv_aload_n hx hb gd_Calculator_divide_11 rfl (lv_at hl 2 rfl) ?_
    refine gw_geti (k := 1) (ref := R_Whole) C hW o_t2 (by decide) rfl gi_Whole rfl (by decide) rfl rfl gk_86 gd_Calculator_divide_12 ?_
    refine lv_icmp_ge (tgt := 35) hx hb gd_Calculator_divide_15 (by decide) (fun c54 => ?_) (fun c54 => ?_)
    · have h := gf_t c54 h
      refine lv_aload_n hx hb gd_Calculator_divide_35 rfl (lv_at hl 2 rfl) ?_
      obtain ⟨q55, e56, h⟩ := gf_nn_ok h
      refine gw_getr (k := 0) (ty := 10) (ref := R_Whole) C hW o_t2 (by decide) rfl gi_Whole rfl (by decide) rfl rfl gk_80 gd_Calculator_divide_36 e56 ?_
      have o_q55 := hW.ref (d := 10) o_t2 e56 rfl
      refine lv_aload_n hx hb gd_Calculator_divide_39 rfl (lv_at hl 2 rfl) ?_
      refine gw_geti (k := 1) (ref := R_Whole) C hW o_t2 (by decide) rfl gi_Whole rfl (by decide) rfl rfl gk_86 gd_Calculator_divide_40 ?_
      refine lv_iconst (v := 1) hx hb gd_Calculator_divide_43 (by decide) ?_
      refine lv_isub hx hb gd_Calculator_divide_44 ?_
      obtain ⟨g57, h⟩ := gf_if_ok h
      refine gw_iald C hW o_q55 g57 gd_Calculator_divide_45 ?_
      obtain ⟨a60, u58, d59, h⟩ := gf_cl_ok h
      refine gw_callSi (As := [.int (u.1 q55 (((u.1 t2 1) - (1 : Int32))).toNatClampNeg)]) (rest := []) C hW (fun _ h => Or.inr h) hl.1 gm_Integer_numberOfLeadingZeros (gc_Integer_numberOfLeadingZeros l F  d59 _) gk_87 gk_35 rfl rfl ⟨Nat.le_of_ble_eq_true rfl, Nat.le_of_ble_eq_true rfl⟩ ⟨Nat.zero_le _, Nat.zero_le _⟩ rfl rfl (Nat.le_of_ble_eq_true rfl) gd_Calculator_divide_46 (fun H locs hW => ?_)
      refine lv_iconst (v := 1) hx hb gd_Calculator_divide_49 (by decide) ?_
      refine lv_isub hx hb gd_Calculator_divide_50 ?_
      refine lv_topi (fun a61 e62 => ?_)
      have h := gf_nm_ok e62 h
      refine lv_istore_n (lv' := [(3, .int a61), (0, .ref (hs t0)), (1, .ref (hs t1)), (2, .ref (hs t2))]) hx hb gd_Calculator_divide_51 rfl hl (by decide) rfl (fun ls hl => ?_)
      refine lv_aload_n hx hb gd_Calculator_divide_52 rfl (lv_at hl 3 rfl) ?_
      refine gw_geti (k := 1) (ref := R_Whole) C hW o_t2 (by decide) rfl gi_Whole rfl (by decide) rfl rfl gk_86 gd_Calculator_divide_53 ?_
      refine lv_topi (fun a63 e64 => ?_)
      have h := gf_nm_ok e64 h
      refine lv_istore (lv' := [(4, .int a63), (3, .int a61), (0, .ref (hs t0)), (1, .ref (hs t1)), (2, .ref (hs t2))]) hx hb gd_Calculator_divide_56 hl (by decide) rfl (fun ls hl => ?_)
      refine lv_aload_n hx hb gd_Calculator_divide_58 rfl (lv_at hl 3 rfl) ?_
      refine gw_geti (k := 1) (ref := R_Whole) C hW o_t1 (by decide) rfl gi_Whole rfl (by decide) rfl rfl gk_86 gd_Calculator_divide_59 ?_
      refine lv_iload hx hb gd_Calculator_divide_62 (lv_at hl 0 rfl) ?_
      refine lv_isub hx hb gd_Calculator_divide_64 ?_
      refine lv_iconst (v := 1) hx hb gd_Calculator_divide_65 (by decide) ?_
      refine lv_iadd hx hb gd_Calculator_divide_66 ?_
      refine lv_topi (fun a65 e66 => ?_)
      have h := gf_nm_ok e66 h
      refine lv_istore (lv' := [(5, .int a65), (4, .int a63), (3, .int a61), (0, .ref (hs t0)), (1, .ref (hs t1)), (2, .ref (hs t2))]) hx hb gd_Calculator_divide_67 hl (by decide) rfl (fun ls hl => ?_)
      refine lv_aload_n hx hb gd_Calculator_divide_69 rfl (lv_at hl 3 rfl) ?_
      obtain ⟨q67, e68, h⟩ := gf_nn_ok h
      refine gw_getr (k := 2) (ty := 8) (ref := R_Calculator) C hW o_t0 (by decide) rfl gi_Calculator rfl (by decide) rfl rfl gk_81 gd_Calculator_divide_70 e68 ?_
      have o_q67 := hW.ref (d := 8) o_t0 e68 rfl
      refine lv_aload_n hx hb gd_Calculator_divide_73 rfl (lv_at hl 5 rfl) ?_
      refine lv_iload_n hx hb gd_Calculator_divide_74 rfl (lv_at hl 2 rfl) ?_
      obtain ⟨u69, d70, h⟩ := gf_bd_ok h
      refine gw_callVv (K := R_Whole) (As := [.ref (hs t2), .int a61]) (rest := []) C hW (fun _ h => Or.inr h) hl.1 gm_Whole_shiftUp (gc_Whole_shiftUp l F o_q67 o_t2 d70 _) gk_88 gk_89 gk_90 o_q67 (by decide) rfl rfl rfl ⟨Nat.le_of_ble_eq_true rfl, Nat.le_of_ble_eq_true rfl⟩ ⟨Nat.zero_le _, Nat.zero_le _⟩ rfl rfl (Nat.le_of_ble_eq_true rfl) gd_Calculator_divide_75 (fun H locs hW => ?_)
      refine lv_aload_n hx hb gd_Calculator_divide_78 rfl (lv_at hl 3 rfl) ?_
      obtain ⟨q71, e72, h⟩ := gf_nn_ok h
      refine gw_getr (k := 1) (ty := 8) (ref := R_Calculator) C hW o_t0 (by decide) rfl gi_Calculator rfl (by decide) rfl rfl gk_73 gd_Calculator_divide_79 e72 ?_
      have o_q71 := hW.ref (d := 8) o_t0 e72 rfl
      refine lv_aload_n hx hb gd_Calculator_divide_82 rfl (lv_at hl 4 rfl) ?_
      refine lv_iload_n hx hb gd_Calculator_divide_83 rfl (lv_at hl 2 rfl) ?_
      obtain ⟨u73, d74, h⟩ := gf_bd_ok h
      refine gw_callVv (K := R_Whole) (As := [.ref (hs t1), .int a61]) (rest := []) C hW (fun _ h => Or.inr h) hl.1 gm_Whole_shiftUp (gc_Whole_shiftUp l F o_q71 o_t1 d74 _) gk_88 gk_89 gk_90 o_q71 (by decide) rfl rfl rfl ⟨Nat.le_of_ble_eq_true rfl, Nat.le_of_ble_eq_true rfl⟩ ⟨Nat.zero_le _, Nat.zero_le _⟩ rfl rfl (Nat.le_of_ble_eq_true rfl) gd_Calculator_divide_84 (fun H locs hW => ?_)
      refine lv_iload hx hb gd_Calculator_divide_87 (lv_at hl 0 rfl) ?_
      refine lv_iconst (v := 1) hx hb gd_Calculator_divide_89 (by decide) ?_
      refine lv_isub hx hb gd_Calculator_divide_90 ?_
      refine lv_topi (fun a75 e76 => ?_)
      have h := gf_nm_ok e76 h
      refine lv_istore (lv' := [(6, .int a75), (5, .int a65), (4, .int a63), (3, .int a61), (0, .ref (hs t0)), (1, .ref (hs t1)), (2, .ref (hs t2))]) hx hb gd_Calculator_divide_91 hl (by decide) rfl (fun ls hl => ?_)
      exact gx_Calculator_divide_L93 F C hr hk  F u73 t0 t1 t2 a61 a63 a65 a75 _ _ _ o_t0 o_t1 o_t2 hW (lv_sub hl [4, 5, 6, 3, 2, 1, 0] rfl) h
    · have h := gf_f c54 h
      exact gx_Calculator_divide_b18 F C hr hk  u t0 t1 o_t0 o_t1 hW (lv_sub hl [0, 1] rfl) h

set_option maxRecDepth 20000 in
theorem gc_Calculator_divide (l : Launch) {D : va_G} {cA : Nat → ClassId} {hs : Nat → Nat} {z : gw_Sh} (F : Nat) {u : gw_St} {r0 : gw_St} {t0 : Nat} {t1 : Nat} {t2 : Nat} (o_t0 : gw_ok z t0 7) (o_t1 : gw_ok z t1 8) (o_t2 : gw_ok z t2 8) (h : gf_Calculator_divide F z u t0 t1 t2 = some r0) (sz : Nat) : gw_Mv l gy_Calculator_divide gb_Calculator_divide 9 none gr_Calculator_divide [.ref (hs t0), .ref (hs t1), .ref (hs t2)] D cA hs z u sz r0 := by
  refine gw_enter (by decide) (Nat.le_of_ble_eq_true rfl) ?_
  intro p e s m below meth c ls hsz C hW hr hk _ hl
  subst hsz
  exact gx_Calculator_divide_b0 F C hr hk u t0 t1 t2 o_t0 o_t1 o_t2 hW (lv_sub hl [0, 1, 2] rfl) h
-- GearDesk$Calculator.findDivisor(LGearDesk$Whole;LGearDesk$Whole;LGearDesk$Whole;)V
theorem gk_92 : Cond.fieldLink R_Calculator 24 R_Calculator "left" "LGearDesk$Whole;" ∈ gt_T := gt_m1 (List.mem_of_getElem? (i := 167) rfl) rfl
theorem gk_93 : Cond.methodLink R_Calculator 57 Lib.Math.abs.name ∈ gt_T := gt_m5 (List.mem_of_getElem? (i := 163) rfl) rfl
theorem gk_94 : Cond.static Lib.Math.abs.name ∈ gt_T := gt_m5 (List.mem_of_getElem? (i := 86) rfl) rfl
theorem gk_95 : Cond.code Lib.Math.abs.name Lib.Math.abs.code 1 (some .int) ∈ gt_T := gt_m5 (List.mem_of_getElem? (i := 87) rfl) rfl
theorem gk_96 : Cond.fieldLink R_Calculator 27 R_Calculator "right" "LGearDesk$Whole;" ∈ gt_T := gt_m1 (List.mem_of_getElem? (i := 168) rfl) rfl
theorem gk_97 : Cond.methodLink R_Calculator 45 gy_Calculator_divide ∈ gt_T := gt_m5 (List.mem_of_getElem? (i := 162) rfl) rfl
theorem gk_98 : Cond.instanceMethod gy_Calculator_divide ∈ gt_T := gt_m5 (List.mem_of_getElem? (i := 105) rfl) rfl
theorem gk_99 : Cond.selects R_Calculator gy_Calculator_divide gy_Calculator_divide ∈ gt_T := gt_m5 (List.mem_of_getElem? (i := 106) rfl) rfl
def gy_Calculator_findDivisor : MethodName := ⟨R_Calculator, "findDivisor", "(LGearDesk$Whole;LGearDesk$Whole;LGearDesk$Whole;)V"⟩
abbrev gb_Calculator_findDivisor : ByteArray := prog_2_method_3_code
theorem gk_100 : Cond.code gy_Calculator_findDivisor gb_Calculator_findDivisor 5 none ∈ gt_T := gt_m5 (List.mem_of_getElem? (i := 161) rfl) rfl
def gr_Calculator_findDivisor : Room := gw_rm 4 139
theorem gm_Calculator_findDivisor : gw_Mth gy_Calculator_findDivisor gb_Calculator_findDivisor 5 none 3 := ⟨gk_100, gk_66, ⟨by decide +kernel, by decide +kernel⟩, by decide +kernel⟩
theorem gd_Calculator_findDivisor_0 : decode gb_Calculator_findDivisor 0 = .ok (.aload_n 0, 1) := by decide +kernel
theorem gd_Calculator_findDivisor_1 : decode gb_Calculator_findDivisor 1 = .ok (.getfield 24, 3) := by decide +kernel
theorem gd_Calculator_findDivisor_4 : decode gb_Calculator_findDivisor 4 = .ok (.aload_n 1, 1) := by decide +kernel
theorem gd_Calculator_findDivisor_5 : decode gb_Calculator_findDivisor 5 = .ok (.invokevirtual 49, 3) := by decide +kernel
theorem gd_Calculator_findDivisor_8 : decode gb_Calculator_findDivisor 8 = .ok (.aload_n 0, 1) := by decide +kernel
theorem gd_Calculator_findDivisor_9 : decode gb_Calculator_findDivisor 9 = .ok (.getfield 27, 3) := by decide +kernel
theorem gd_Calculator_findDivisor_12 : decode gb_Calculator_findDivisor 12 = .ok (.aload_n 2, 1) := by decide +kernel
theorem gd_Calculator_findDivisor_13 : decode gb_Calculator_findDivisor 13 = .ok (.invokevirtual 49, 3) := by decide +kernel
theorem gd_Calculator_findDivisor_16 : decode gb_Calculator_findDivisor 16 = .ok (.iconst 0, 1) := by decide +kernel
theorem gd_Calculator_findDivisor_17 : decode gb_Calculator_findDivisor 17 = .ok (.istore 4, 2) := by decide +kernel
theorem gd_Calculator_findDivisor_19 : decode gb_Calculator_findDivisor 19 = .ok (.iload 4, 2) := by decide +kernel
theorem gd_Calculator_findDivisor_21 : decode gb_Calculator_findDivisor 21 = .ok (.sipush 10000, 3) := by decide +kernel
theorem gd_Calculator_findDivisor_24 : decode gb_Calculator_findDivisor 24 = .ok (.if_icmp .ge 53, 3) := by decide +kernel
theorem gd_Calculator_findDivisor_27 : decode gb_Calculator_findDivisor 27 = .ok (.aload_n 0, 1) := by decide +kernel
theorem gd_Calculator_findDivisor_28 : decode gb_Calculator_findDivisor 28 = .ok (.getfield 27, 3) := by decide +kernel
theorem gd_Calculator_findDivisor_31 : decode gb_Calculator_findDivisor 31 = .ok (.getfield 53, 3) := by decide +kernel
theorem gd_Calculator_findDivisor_34 : decode gb_Calculator_findDivisor 34 = .ok (.ifCond .eq 43, 3) := by decide +kernel
theorem gd_Calculator_findDivisor_37 : decode gb_Calculator_findDivisor 37 = .ok (.aload_n 0, 1) := by decide +kernel
theorem gd_Calculator_findDivisor_38 : decode gb_Calculator_findDivisor 38 = .ok (.aload_n 0, 1) := by decide +kernel
theorem gd_Calculator_findDivisor_39 : decode gb_Calculator_findDivisor 39 = .ok (.getfield 24, 3) := by decide +kernel
theorem gd_Calculator_findDivisor_42 : decode gb_Calculator_findDivisor 42 = .ok (.aload_n 0, 1) := by decide +kernel
theorem gd_Calculator_findDivisor_43 : decode gb_Calculator_findDivisor 43 = .ok (.getfield 27, 3) := by decide +kernel
theorem gd_Calculator_findDivisor_46 : decode gb_Calculator_findDivisor 46 = .ok (.invokevirtual 45, 3) := by decide +kernel
theorem gd_Calculator_findDivisor_49 : decode gb_Calculator_findDivisor 49 = .ok (.aload_n 0, 1) := by decide +kernel
theorem gd_Calculator_findDivisor_50 : decode gb_Calculator_findDivisor 50 = .ok (.getfield 24, 3) := by decide +kernel
theorem gd_Calculator_findDivisor_53 : decode gb_Calculator_findDivisor 53 = .ok (.aload_n 0, 1) := by decide +kernel
theorem gd_Calculator_findDivisor_54 : decode gb_Calculator_findDivisor 54 = .ok (.getfield 27, 3) := by decide +kernel
theorem gd_Calculator_findDivisor_57 : decode gb_Calculator_findDivisor 57 = .ok (.invokevirtual 49, 3) := by decide +kernel
theorem gd_Calculator_findDivisor_60 : decode gb_Calculator_findDivisor 60 = .ok (.aload_n 0, 1) := by decide +kernel
theorem gd_Calculator_findDivisor_61 : decode gb_Calculator_findDivisor 61 = .ok (.getfield 27, 3) := by decide +kernel
theorem gd_Calculator_findDivisor_64 : decode gb_Calculator_findDivisor 64 = .ok (.aload_n 0, 1) := by decide +kernel
theorem gd_Calculator_findDivisor_65 : decode gb_Calculator_findDivisor 65 = .ok (.getfield 18, 3) := by decide +kernel
theorem gd_Calculator_findDivisor_68 : decode gb_Calculator_findDivisor 68 = .ok (.invokevirtual 49, 3) := by decide +kernel
theorem gd_Calculator_findDivisor_71 : decode gb_Calculator_findDivisor 71 = .ok (.iinc 4 1, 3) := by decide +kernel
theorem gd_Calculator_findDivisor_74 : decode gb_Calculator_findDivisor 74 = .ok (.goto (-55), 3) := by decide +kernel
theorem gd_Calculator_findDivisor_77 : decode gb_Calculator_findDivisor 77 = .ok (.aload_n 3, 1) := by decide +kernel
theorem gd_Calculator_findDivisor_78 : decode gb_Calculator_findDivisor 78 = .ok (.aload_n 0, 1) := by decide +kernel
theorem gd_Calculator_findDivisor_79 : decode gb_Calculator_findDivisor 79 = .ok (.getfield 24, 3) := by decide +kernel
theorem gd_Calculator_findDivisor_82 : decode gb_Calculator_findDivisor 82 = .ok (.invokevirtual 49, 3) := by decide +kernel
theorem gd_Calculator_findDivisor_85 : decode gb_Calculator_findDivisor 85 = .ok (.aload_n 3, 1) := by decide +kernel
theorem gd_Calculator_findDivisor_86 : decode gb_Calculator_findDivisor 86 = .ok (.aload_n 3, 1) := by decide +kernel
theorem gd_Calculator_findDivisor_87 : decode gb_Calculator_findDivisor 87 = .ok (.getfield 53, 3) := by decide +kernel
theorem gd_Calculator_findDivisor_90 : decode gb_Calculator_findDivisor 90 = .ok (.invokestatic 57, 3) := by decide +kernel
theorem gd_Calculator_findDivisor_93 : decode gb_Calculator_findDivisor 93 = .ok (.putfield 53, 3) := by decide +kernel
theorem gd_Calculator_findDivisor_96 : decode gb_Calculator_findDivisor 96 = .ok (.return_, 1) := by decide +kernel
def gf_Calculator_findDivisor_b77 (F : Nat) (z : gw_Sh)  (u : gw_St) (t0 : Nat) (t3 : Nat) : Option gw_St :=
  gf_nn (u.2.2 t0 3) fun q1 => (gf_Whole_copyFrom F z u t3 q1).bind fun u3 => gf_nm (gw_wi u3 t3 2 (if 0 ≤ (u3.1 t3 2) then (u3.1 t3 2) else 0 - (u3.1 t3 2))) fun u5 => some u5
def gf_Calculator_findDivisor_S19 (F : Nat) (z : gw_Sh)  (rc_19 : gw_St → Nat → Nat → Int32 → Option gw_St) (u : gw_St) (t0 : Nat) (t3 : Nat) (x4 : Int32) : Option gw_St :=
  if (10000 : Int32) ≤ x4 then (gf_Calculator_findDivisor_b77 F z  u t0 t3) else (gf_nn (u.2.2 t0 4) fun q8 => if (u.1 q8 2) = 0 then (gf_Calculator_findDivisor_b77 F z  u t0 t3) else (gf_nn (u.2.2 t0 3) fun q11 => gf_nn (u.2.2 t0 4) fun q13 => (gf_Calculator_divide F z u t0 q11 q13).bind fun u15 => gf_nn (u15.2.2 t0 3) fun q17 => gf_nn (u15.2.2 t0 4) fun q19 => (gf_Whole_copyFrom F z u15 q17 q19).bind fun u21 => gf_nn (u21.2.2 t0 4) fun q23 => gf_nn (u21.2.2 t0 1) fun q25 => (gf_Whole_copyFrom F z u21 q23 q25).bind fun u27 => gf_nm (x4 + 1) fun a29 => rc_19 u27 t0 t3 a29))
def gf_Calculator_findDivisor_L19 (F : Nat) (z : gw_Sh)  : Nat → gw_St → Nat → Nat → Int32 → Option gw_St
  | 0 => fun _ _ _ _ => none
  | n + 1 => fun u t0 t3 x4 => gf_Calculator_findDivisor_S19 F z  (gf_Calculator_findDivisor_L19 F z  n) u t0 t3 x4
def gf_Calculator_findDivisor_b0 (F : Nat) (z : gw_Sh)  (u : gw_St) (t0 : Nat) (t1 : Nat) (t2 : Nat) (t3 : Nat) : Option gw_St :=
  gf_nn (u.2.2 t0 3) fun q31 => (gf_Whole_copyFrom F z u q31 t1).bind fun u33 => gf_nn (u33.2.2 t0 4) fun q35 => (gf_Whole_copyFrom F z u33 q35 t2).bind fun u37 => gf_Calculator_findDivisor_L19 F z  F u37 t0 t3 0
def gf_Calculator_findDivisor (F : Nat) (z : gw_Sh) (u : gw_St) (t0 : Nat) (t1 : Nat) (t2 : Nat) (t3 : Nat) : Option gw_St := gf_Calculator_findDivisor_b0 F z  u t0 t1 t2 t3
set_option maxHeartbeats 4000000 in
set_option maxRecDepth 20000 in
theorem gx_Calculator_findDivisor_b77 {p : Program} {l : Launch} {e : Env} {s : State} {m : MethodId} {args : Array Value} {below : List Frame} {meth : Method} {c : Code} {D : va_G} {cA : Nat → ClassId} {hs : Nat → Nat} {z : gw_Sh} (F : Nat) {r0 : gw_St} (C : gw_Cx p s m args c gb_Calculator_findDivisor 5 R_Calculator D cA) (hr : meth.sig.returnType = none) (hk : meth.locks = false) (u : gw_St) (t0 : Nat) (t3 : Nat) (o_t0 : gw_ok z t0 7) (o_t3 : gw_ok z t3 8) {H : Heap} {locs : List Loc} {ls : Array Slot} (hW : gw_Wx D cA hs z s u H locs) (hl : lv_has ls 5 [(0, .ref (hs t0)), (3, .ref (hs t3))]) (h : gf_Calculator_findDivisor_b77 F z   u t0 t3 = some r0) : gw_Gv p l e gr_Calculator_findDivisor s m args below meth c D cA hs z r0 H locs ls 77 [] := by
  obtain ⟨hx, hb, hml, hown, hts, hK⟩ := id C
  unfold gf_Calculator_findDivisor_b77 at h
  refine lv_aload_n hx hb gd_Calculator_findDivisor_77 rfl (lv_at hl 1 rfl) ?_
  refine lv_aload_n hx hb gd_Calculator_findDivisor_78 rfl (lv_at hl 0 rfl) ?_
  obtain ⟨q1, e2, h⟩ := gf_nn_ok h
  refine gw_getr (k := 3) (ty := 8) (ref := R_Calculator) C hW o_t0 (by decide) rfl gi_Calculator rfl (by decide) rfl rfl gk_92 gd_Calculator_findDivisor_79 e2 ?_
  have o_q1 := hW.ref (d := 8) o_t0 e2 rfl
  obtain ⟨u3, d4, h⟩ := gf_bd_ok h
  refine gw_callVv (K := R_Whole) (As := [.ref (hs q1)]) (rest := []) C hW (fun _ h => Or.inr h) hl.1 gm_Whole_copyFrom (gc_Whole_copyFrom l F o_t3 o_q1 d4 _) gk_74 gk_62 gk_63 o_t3 (by decide) rfl rfl rfl ⟨Nat.le_of_ble_eq_true rfl, Nat.le_of_ble_eq_true rfl⟩ ⟨Nat.zero_le _, Nat.zero_le _⟩ rfl rfl (Nat.le_of_ble_eq_true rfl) gd_Calculator_findDivisor_82 (fun H locs hW => ?_)
  refine lv_aload_n hx hb gd_Calculator_findDivisor_85 rfl (lv_at hl 1 rfl) ?_
  refine lv_aload_n hx hb gd_Calculator_findDivisor_86 rfl (lv_at hl 1 rfl) ?_
  refine gw_geti (k := 2) (ref := R_Whole) C hW o_t3 (by decide) rfl gi_Whole rfl (by decide) rfl rfl gk_75 gd_Calculator_findDivisor_87 ?_
  refine va_mabs hx hb (hml.trans hl.1.symm) hown (hts _ gk_93) (hts _ gk_94) (hts _ gk_26) (hts _ gk_95) (Nat.le_of_ble_eq_true rfl) (Nat.le_of_ble_eq_true rfl) (Nat.zero_le _) (Nat.zero_le _) gd_Calculator_findDivisor_90 ?_
  refine gw_puti (k := 2) (ref := R_Whole) (fty := .int) C hW o_t3 (by decide) rfl gi_Whole rfl (by decide) rfl rfl gk_75 tf_Whole tf_Whole_ok nm_Whole rfl rfl rfl rfl gd_Calculator_findDivisor_93 (fun u5 H locs e6 hW => ?_)
  have h := gf_nm_ok e6 h
  obtain rfl := Option.some.inj h
  exact gw_vret C hW hr hk gd_Calculator_findDivisor_96

set_option maxHeartbeats 4000000 in
set_option maxRecDepth 20000 in
theorem gx_Calculator_findDivisor_S19 {p : Program} {l : Launch} {e : Env} {s : State} {m : MethodId} {args : Array Value} {below : List Frame} {meth : Method} {c : Code} {D : va_G} {cA : Nat → ClassId} {hs : Nat → Nat} {z : gw_Sh} (F : Nat) {r0 : gw_St} (C : gw_Cx p s m args c gb_Calculator_findDivisor 5 R_Calculator D cA) (hr : meth.sig.returnType = none) (hk : meth.locks = false) {rc_19 : gw_St → Nat → Nat → Int32 → Option gw_St} (k_19 : ∀ (u : gw_St) (t0 : Nat) (t3 : Nat) (x4 : Int32) (H : Heap) (locs : List Loc) (ls : Array Slot), gw_ok z t0 7 → gw_ok z t3 8 → gw_Wx D cA hs z s u H locs → lv_has ls 5 [(0, .ref (hs t0)), (3, .ref (hs t3)), (4, .int x4)] → rc_19 u t0 t3 x4 = some r0 → gw_Gv p l e gr_Calculator_findDivisor s m args below meth c D cA hs z r0 H locs ls 19 []) (u : gw_St) (t0 : Nat) (t3 : Nat) (x4 : Int32) (o_t0 : gw_ok z t0 7) (o_t3 : gw_ok z t3 8) {H : Heap} {locs : List Loc} {ls : Array Slot} (hW : gw_Wx D cA hs z s u H locs) (hl : lv_has ls 5 [(0, .ref (hs t0)), (3, .ref (hs t3)), (4, .int x4)]) (h : gf_Calculator_findDivisor_S19 F z  rc_19 u t0 t3 x4 = some r0) : gw_Gv p l e gr_Calculator_findDivisor s m args below meth c D cA hs z r0 H locs ls 19 [] := by
  obtain ⟨hx, hb, hml, hown, hts, hK⟩ := id C
  unfold gf_Calculator_findDivisor_S19 at h
  refine lv_iload hx hb gd_Calculator_findDivisor_19 (lv_at hl 2 rfl) ?_
  refine lv_sipush (v := 10000) hx hb gd_Calculator_findDivisor_21 (by decide) ?_
  refine lv_icmp_ge (tgt := 77) hx hb gd_Calculator_findDivisor_24 (by decide) (fun c7 => ?_) (fun c7 => ?_)
  · have h := gf_t c7 h
    exact gx_Calculator_findDivisor_b77 F C hr hk  u t0 t3 o_t0 o_t3 hW (lv_sub hl [0, 1] rfl) h
  · have h := gf_f c7 h
    refine lv_aload_n hx hb gd_Calculator_findDivisor_27 rfl (lv_at hl 0 rfl) ?_
    obtain ⟨q8, e9, h⟩ := gf_nn_ok h
    refine gw_getr (k := 4) (ty := 8) (ref := R_Calculator) C hW o_t0 (by decide) rfl gi_Calculator rfl (by decide) rfl rfl gk_96 gd_Calculator_findDivisor_28 e9 ?_
    have o_q8 := hW.ref (d := 8) o_t0 e9 rfl
    refine gw_geti (k := 2) (ref := R_Whole) C hW o_q8 (by decide) rfl gi_Whole rfl (by decide) rfl rfl gk_75 gd_Calculator_findDivisor_31 ?_
    refine lv_if_eq (tgt := 77) hx hb gd_Calculator_findDivisor_34 (by decide) (fun c10 => ?_) (fun c10 => ?_)
    · have h := gf_t c10 h
      exact gx_Calculator_findDivisor_b77 F C hr hk  u t0 t3 o_t0 o_t3 hW (lv_sub hl [0, 1] rfl) h
    · have h := gf_f c10 h
      refine lv_aload_n hx hb gd_Calculator_findDivisor_37 rfl (lv_at hl 0 rfl) ?_
      refine lv_aload_n hx hb gd_Calculator_findDivisor_38 rfl (lv_at hl 0 rfl) ?_
      obtain ⟨q11, e12, h⟩ := gf_nn_ok h
      refine gw_getr (k := 3) (ty := 8) (ref := R_Calculator) C hW o_t0 (by decide) rfl gi_Calculator rfl (by decide) rfl rfl gk_92 gd_Calculator_findDivisor_39 e12 ?_
      have o_q11 := hW.ref (d := 8) o_t0 e12 rfl
      refine lv_aload_n hx hb gd_Calculator_findDivisor_42 rfl (lv_at hl 0 rfl) ?_
      obtain ⟨q13, e14, h⟩ := gf_nn_ok h
      refine gw_getr (k := 4) (ty := 8) (ref := R_Calculator) C hW o_t0 (by decide) rfl gi_Calculator rfl (by decide) rfl rfl gk_96 gd_Calculator_findDivisor_43 e14 ?_
      have o_q13 := hW.ref (d := 8) o_t0 e14 rfl
      obtain ⟨u15, d16, h⟩ := gf_bd_ok h
      refine gw_callVv (K := R_Calculator) (As := [.ref (hs q11), .ref (hs q13)]) (rest := []) C hW (fun _ h => Or.inr h) hl.1 gm_Calculator_divide (gc_Calculator_divide l F o_t0 o_q11 o_q13 d16 _) gk_97 gk_98 gk_99 o_t0 (by decide) rfl rfl rfl ⟨Nat.le_of_ble_eq_true rfl, Nat.le_of_ble_eq_true rfl⟩ ⟨Nat.zero_le _, Nat.zero_le _⟩ rfl rfl (Nat.le_of_ble_eq_true rfl) gd_Calculator_findDivisor_46 (fun H locs hW => ?_)
      refine lv_aload_n hx hb gd_Calculator_findDivisor_49 rfl (lv_at hl 0 rfl) ?_
      obtain ⟨q17, e18, h⟩ := gf_nn_ok h
      refine gw_getr (k := 3) (ty := 8) (ref := R_Calculator) C hW o_t0 (by decide) rfl gi_Calculator rfl (by decide) rfl rfl gk_92 gd_Calculator_findDivisor_50 e18 ?_
      have o_q17 := hW.ref (d := 8) o_t0 e18 rfl
      refine lv_aload_n hx hb gd_Calculator_findDivisor_53 rfl (lv_at hl 0 rfl) ?_
      obtain ⟨q19, e20, h⟩ := gf_nn_ok h
      refine gw_getr (k := 4) (ty := 8) (ref := R_Calculator) C hW o_t0 (by decide) rfl gi_Calculator rfl (by decide) rfl rfl gk_96 gd_Calculator_findDivisor_54 e20 ?_
      have o_q19 := hW.ref (d := 8) o_t0 e20 rfl
      obtain ⟨u21, d22, h⟩ := gf_bd_ok h
      refine gw_callVv (K := R_Whole) (As := [.ref (hs q19)]) (rest := []) C hW (fun _ h => Or.inr h) hl.1 gm_Whole_copyFrom (gc_Whole_copyFrom l F o_q17 o_q19 d22 _) gk_74 gk_62 gk_63 o_q17 (by decide) rfl rfl rfl ⟨Nat.le_of_ble_eq_true rfl, Nat.le_of_ble_eq_true rfl⟩ ⟨Nat.zero_le _, Nat.zero_le _⟩ rfl rfl (Nat.le_of_ble_eq_true rfl) gd_Calculator_findDivisor_57 (fun H locs hW => ?_)
      refine lv_aload_n hx hb gd_Calculator_findDivisor_60 rfl (lv_at hl 0 rfl) ?_
      obtain ⟨q23, e24, h⟩ := gf_nn_ok h
      refine gw_getr (k := 4) (ty := 8) (ref := R_Calculator) C hW o_t0 (by decide) rfl gi_Calculator rfl (by decide) rfl rfl gk_96 gd_Calculator_findDivisor_61 e24 ?_
      have o_q23 := hW.ref (d := 8) o_t0 e24 rfl
      refine lv_aload_n hx hb gd_Calculator_findDivisor_64 rfl (lv_at hl 0 rfl) ?_
      obtain ⟨q25, e26, h⟩ := gf_nn_ok h
      refine gw_getr (k := 1) (ty := 8) (ref := R_Calculator) C hW o_t0 (by decide) rfl gi_Calculator rfl (by decide) rfl rfl gk_73 gd_Calculator_findDivisor_65 e26 ?_
      have o_q25 := hW.ref (d := 8) o_t0 e26 rfl
      obtain ⟨u27, d28, h⟩ := gf_bd_ok h
      refine gw_callVv (K := R_Whole) (As := [.ref (hs q25)]) (rest := []) C hW (fun _ h => Or.inr h) hl.1 gm_Whole_copyFrom (gc_Whole_copyFrom l F o_q23 o_q25 d28 _) gk_74 gk_62 gk_63 o_q23 (by decide) rfl rfl rfl ⟨Nat.le_of_ble_eq_true rfl, Nat.le_of_ble_eq_true rfl⟩ ⟨Nat.zero_le _, Nat.zero_le _⟩ rfl rfl (Nat.le_of_ble_eq_true rfl) gd_Calculator_findDivisor_68 (fun H locs hW => ?_)
      obtain ⟨a29, e30⟩ : ∃ y : Int32, y = x4 + 1 := ⟨_, rfl⟩
      have h := gf_nm_ok e30 h
      refine lv_iinc (v := a29) (lv' := [(4, .int a29), (0, .ref (hs t0)), (3, .ref (hs t3))]) hx hb gd_Calculator_findDivisor_71 hl (k := 2) rfl (by rw [e30]; rfl) (by decide) rfl (fun ls hl => ?_)
      refine lv_goto (tgt := 19) hx hb gd_Calculator_findDivisor_74 (by decide) ?_
      exact k_19 u27 t0 t3 a29 _ _ _ o_t0 o_t3 hW (lv_sub hl [1, 2, 0] rfl) h
set_option maxHeartbeats 4000000 in
set_option maxRecDepth 20000 in
theorem gx_Calculator_findDivisor_L19 {p : Program} {l : Launch} {e : Env} {s : State} {m : MethodId} {args : Array Value} {below : List Frame} {meth : Method} {c : Code} {D : va_G} {cA : Nat → ClassId} {hs : Nat → Nat} {z : gw_Sh} (F : Nat) {r0 : gw_St} (C : gw_Cx p s m args c gb_Calculator_findDivisor 5 R_Calculator D cA) (hr : meth.sig.returnType = none) (hk : meth.locks = false) : ∀ (n : Nat), ∀ (u : gw_St) (t0 : Nat) (t3 : Nat) (x4 : Int32) (H : Heap) (locs : List Loc) (ls : Array Slot), gw_ok z t0 7 → gw_ok z t3 8 → gw_Wx D cA hs z s u H locs → lv_has ls 5 [(0, .ref (hs t0)), (3, .ref (hs t3)), (4, .int x4)] → gf_Calculator_findDivisor_L19 F z  n u t0 t3 x4 = some r0 → gw_Gv p l e gr_Calculator_findDivisor s m args below meth c D cA hs z r0 H locs ls 19 [] := by
  intro n
  induction n with
  | zero =>
    intro u t0 t3 x4 H locs ls o_t0 o_t3 hW hl h
    cases h
  | succ n ih =>
    intro u t0 t3 x4 H locs ls o_t0 o_t3 hW hl h
    exact gx_Calculator_findDivisor_S19 F C hr hk  ih u t0 t3 x4 o_t0 o_t3 hW hl h

set_option maxHeartbeats 4000000 in
set_option maxRecDepth 20000 in
theorem gx_Calculator_findDivisor_b0 {p : Program} {l : Launch} {e : Env} {s : State} {m : MethodId} {args : Array Value} {below : List Frame} {meth : Method} {c : Code} {D : va_G} {cA : Nat → ClassId} {hs : Nat → Nat} {z : gw_Sh} (F : Nat) {r0 : gw_St} (C : gw_Cx p s m args c gb_Calculator_findDivisor 5 R_Calculator D cA) (hr : meth.sig.returnType = none) (hk : meth.locks = false) (u : gw_St) (t0 : Nat) (t1 : Nat) (t2 : Nat) (t3 : Nat) (o_t0 : gw_ok z t0 7) (o_t1 : gw_ok z t1 8) (o_t2 : gw_ok z t2 8) (o_t3 : gw_ok z t3 8) {H : Heap} {locs : List Loc} {ls : Array Slot} (hW : gw_Wx D cA hs z s u H locs) (hl : lv_has ls 5 [(0, .ref (hs t0)), (1, .ref (hs t1)), (2, .ref (hs t2)), (3, .ref (hs t3))]) (h : gf_Calculator_findDivisor_b0 F z   u t0 t1 t2 t3 = some r0) : gw_Gv p l e gr_Calculator_findDivisor s m args below meth c D cA hs z r0 H locs ls 0 [] := by
  obtain ⟨hx, hb, hml, hown, hts, hK⟩ := id C
  unfold gf_Calculator_findDivisor_b0 at h
  refine lv_aload_n hx hb gd_Calculator_findDivisor_0 rfl (lv_at hl 0 rfl) ?_
  obtain ⟨q31, e32, h⟩ := gf_nn_ok h
  refine gw_getr (k := 3) (ty := 8) (ref := R_Calculator) C hW o_t0 (by decide) rfl gi_Calculator rfl (by decide) rfl rfl gk_92 gd_Calculator_findDivisor_1 e32 ?_
  have o_q31 := hW.ref (d := 8) o_t0 e32 rfl
  refine lv_aload_n hx hb gd_Calculator_findDivisor_4 rfl (lv_at hl 1 rfl) ?_
  obtain ⟨u33, d34, h⟩ := gf_bd_ok h
  refine gw_callVv (K := R_Whole) (As := [.ref (hs t1)]) (rest := []) C hW (fun _ h => Or.inr h) hl.1 gm_Whole_copyFrom (gc_Whole_copyFrom l F o_q31 o_t1 d34 _) gk_74 gk_62 gk_63 o_q31 (by decide) rfl rfl rfl ⟨Nat.le_of_ble_eq_true rfl, Nat.le_of_ble_eq_true rfl⟩ ⟨Nat.zero_le _, Nat.zero_le _⟩ rfl rfl (Nat.le_of_ble_eq_true rfl) gd_Calculator_findDivisor_5 (fun H locs hW => ?_)
  refine lv_aload_n hx hb gd_Calculator_findDivisor_8 rfl (lv_at hl 0 rfl) ?_
  obtain ⟨q35, e36, h⟩ := gf_nn_ok h
  refine gw_getr (k := 4) (ty := 8) (ref := R_Calculator) C hW o_t0 (by decide) rfl gi_Calculator rfl (by decide) rfl rfl gk_96 gd_Calculator_findDivisor_9 e36 ?_
  have o_q35 := hW.ref (d := 8) o_t0 e36 rfl
  refine lv_aload_n hx hb gd_Calculator_findDivisor_12 rfl (lv_at hl 2 rfl) ?_
  obtain ⟨u37, d38, h⟩ := gf_bd_ok h
  refine gw_callVv (K := R_Whole) (As := [.ref (hs t2)]) (rest := []) C hW (fun _ h => Or.inr h) hl.1 gm_Whole_copyFrom (gc_Whole_copyFrom l F o_q35 o_t2 d38 _) gk_74 gk_62 gk_63 o_q35 (by decide) rfl rfl rfl ⟨Nat.le_of_ble_eq_true rfl, Nat.le_of_ble_eq_true rfl⟩ ⟨Nat.zero_le _, Nat.zero_le _⟩ rfl rfl (Nat.le_of_ble_eq_true rfl) gd_Calculator_findDivisor_13 (fun H locs hW => ?_)
  refine lv_iconst (v := 0) hx hb gd_Calculator_findDivisor_16 (by decide) ?_
  refine lv_istore (lv' := [(4, .int 0), (0, .ref (hs t0)), (1, .ref (hs t1)), (2, .ref (hs t2)), (3, .ref (hs t3))]) hx hb gd_Calculator_findDivisor_17 hl (by decide) rfl (fun ls hl => ?_)
  exact gx_Calculator_findDivisor_L19 F C hr hk  F u37 t0 t3 0 _ _ _ o_t0 o_t3 hW (lv_sub hl [1, 4, 0] rfl) h

set_option maxRecDepth 20000 in
theorem gc_Calculator_findDivisor (l : Launch) {D : va_G} {cA : Nat → ClassId} {hs : Nat → Nat} {z : gw_Sh} (F : Nat) {u : gw_St} {r0 : gw_St} {t0 : Nat} {t1 : Nat} {t2 : Nat} {t3 : Nat} (o_t0 : gw_ok z t0 7) (o_t1 : gw_ok z t1 8) (o_t2 : gw_ok z t2 8) (o_t3 : gw_ok z t3 8) (h : gf_Calculator_findDivisor F z u t0 t1 t2 t3 = some r0) (sz : Nat) : gw_Mv l gy_Calculator_findDivisor gb_Calculator_findDivisor 5 none gr_Calculator_findDivisor [.ref (hs t0), .ref (hs t1), .ref (hs t2), .ref (hs t3)] D cA hs z u sz r0 := by
  refine gw_enter (by decide) (Nat.le_of_ble_eq_true rfl) ?_
  intro p e s m below meth c ls hsz C hW hr hk _ hl
  subst hsz
  exact gx_Calculator_findDivisor_b0 F C hr hk u t0 t1 t2 t3 o_t0 o_t1 o_t2 o_t3 hW (lv_sub hl [0, 1, 2, 3] rfl) h
-- GearDesk$Calculator.reduce(LGearDesk$Fraction;)V
theorem gk_101 : Cond.fieldLink R_Calculator 33 R_Fraction "top" "LGearDesk$Whole;" ∈ gt_T := gt_m1 (List.mem_of_getElem? (i := 201) rfl) rfl
theorem gk_102 : Cond.fieldLink R_Calculator 38 R_Fraction "bottom" "LGearDesk$Whole;" ∈ gt_T := gt_m1 (List.mem_of_getElem? (i := 207) rfl) rfl
theorem gk_103 : Cond.fieldLink R_Calculator 30 R_Calculator "common" "LGearDesk$Whole;" ∈ gt_T := gt_m1 (List.mem_of_getElem? (i := 169) rfl) rfl
theorem gk_104 : Cond.methodLink R_Calculator 41 gy_Calculator_findDivisor ∈ gt_T := gt_m5 (List.mem_of_getElem? (i := 158) rfl) rfl
theorem gk_105 : Cond.instanceMethod gy_Calculator_findDivisor ∈ gt_T := gt_m5 (List.mem_of_getElem? (i := 159) rfl) rfl
theorem gk_106 : Cond.selects R_Calculator gy_Calculator_findDivisor gy_Calculator_findDivisor ∈ gt_T := gt_m5 (List.mem_of_getElem? (i := 160) rfl) rfl
def gy_Calculator_reduce : MethodName := ⟨R_Calculator, "reduce", "(LGearDesk$Fraction;)V"⟩
abbrev gb_Calculator_reduce : ByteArray := prog_2_method_2_code
theorem gk_107 : Cond.code gy_Calculator_reduce gb_Calculator_reduce 2 none ∈ gt_T := gt_m5 (List.mem_of_getElem? (i := 157) rfl) rfl
def gr_Calculator_reduce : Room := gw_rm 5 163
theorem gm_Calculator_reduce : gw_Mth gy_Calculator_reduce gb_Calculator_reduce 2 none 1 := ⟨gk_107, gk_66, ⟨by decide +kernel, by decide +kernel⟩, by decide +kernel⟩
theorem gd_Calculator_reduce_0 : decode gb_Calculator_reduce 0 = .ok (.aload_n 0, 1) := by decide +kernel
theorem gd_Calculator_reduce_1 : decode gb_Calculator_reduce 1 = .ok (.aload_n 1, 1) := by decide +kernel
theorem gd_Calculator_reduce_2 : decode gb_Calculator_reduce 2 = .ok (.getfield 33, 3) := by decide +kernel
theorem gd_Calculator_reduce_5 : decode gb_Calculator_reduce 5 = .ok (.aload_n 1, 1) := by decide +kernel
theorem gd_Calculator_reduce_6 : decode gb_Calculator_reduce 6 = .ok (.getfield 38, 3) := by decide +kernel
theorem gd_Calculator_reduce_9 : decode gb_Calculator_reduce 9 = .ok (.aload_n 0, 1) := by decide +kernel
theorem gd_Calculator_reduce_10 : decode gb_Calculator_reduce 10 = .ok (.getfield 30, 3) := by decide +kernel
theorem gd_Calculator_reduce_13 : decode gb_Calculator_reduce 13 = .ok (.invokevirtual 41, 3) := by decide +kernel
theorem gd_Calculator_reduce_16 : decode gb_Calculator_reduce 16 = .ok (.aload_n 0, 1) := by decide +kernel
theorem gd_Calculator_reduce_17 : decode gb_Calculator_reduce 17 = .ok (.aload_n 1, 1) := by decide +kernel
theorem gd_Calculator_reduce_18 : decode gb_Calculator_reduce 18 = .ok (.getfield 33, 3) := by decide +kernel
theorem gd_Calculator_reduce_21 : decode gb_Calculator_reduce 21 = .ok (.aload_n 0, 1) := by decide +kernel
theorem gd_Calculator_reduce_22 : decode gb_Calculator_reduce 22 = .ok (.getfield 30, 3) := by decide +kernel
theorem gd_Calculator_reduce_25 : decode gb_Calculator_reduce 25 = .ok (.invokevirtual 45, 3) := by decide +kernel
theorem gd_Calculator_reduce_28 : decode gb_Calculator_reduce 28 = .ok (.aload_n 1, 1) := by decide +kernel
theorem gd_Calculator_reduce_29 : decode gb_Calculator_reduce 29 = .ok (.getfield 33, 3) := by decide +kernel
theorem gd_Calculator_reduce_32 : decode gb_Calculator_reduce 32 = .ok (.aload_n 0, 1) := by decide +kernel
theorem gd_Calculator_reduce_33 : decode gb_Calculator_reduce 33 = .ok (.getfield 14, 3) := by decide +kernel
theorem gd_Calculator_reduce_36 : decode gb_Calculator_reduce 36 = .ok (.invokevirtual 49, 3) := by decide +kernel
theorem gd_Calculator_reduce_39 : decode gb_Calculator_reduce 39 = .ok (.aload_n 0, 1) := by decide +kernel
theorem gd_Calculator_reduce_40 : decode gb_Calculator_reduce 40 = .ok (.aload_n 1, 1) := by decide +kernel
theorem gd_Calculator_reduce_41 : decode gb_Calculator_reduce 41 = .ok (.getfield 38, 3) := by decide +kernel
theorem gd_Calculator_reduce_44 : decode gb_Calculator_reduce 44 = .ok (.aload_n 0, 1) := by decide +kernel
theorem gd_Calculator_reduce_45 : decode gb_Calculator_reduce 45 = .ok (.getfield 30, 3) := by decide +kernel
theorem gd_Calculator_reduce_48 : decode gb_Calculator_reduce 48 = .ok (.invokevirtual 45, 3) := by decide +kernel
theorem gd_Calculator_reduce_51 : decode gb_Calculator_reduce 51 = .ok (.aload_n 1, 1) := by decide +kernel
theorem gd_Calculator_reduce_52 : decode gb_Calculator_reduce 52 = .ok (.getfield 38, 3) := by decide +kernel
theorem gd_Calculator_reduce_55 : decode gb_Calculator_reduce 55 = .ok (.aload_n 0, 1) := by decide +kernel
theorem gd_Calculator_reduce_56 : decode gb_Calculator_reduce 56 = .ok (.getfield 14, 3) := by decide +kernel
theorem gd_Calculator_reduce_59 : decode gb_Calculator_reduce 59 = .ok (.invokevirtual 49, 3) := by decide +kernel
theorem gd_Calculator_reduce_62 : decode gb_Calculator_reduce 62 = .ok (.return_, 1) := by decide +kernel
def gf_Calculator_reduce_b0 (F : Nat) (z : gw_Sh)  (u : gw_St) (t0 : Nat) (t1 : Nat) : Option gw_St :=
  gf_nn (u.2.2 t1 0) fun q1 => gf_nn (u.2.2 t1 1) fun q3 => gf_nn (u.2.2 t0 5) fun q5 => (gf_Calculator_findDivisor F z u t0 q1 q3 q5).bind fun u7 => gf_nn (u7.2.2 t1 0) fun q9 => gf_nn (u7.2.2 t0 5) fun q11 => (gf_Calculator_divide F z u7 t0 q9 q11).bind fun u13 => gf_nn (u13.2.2 t1 0) fun q15 => gf_nn (u13.2.2 t0 0) fun q17 => (gf_Whole_copyFrom F z u13 q15 q17).bind fun u19 => gf_nn (u19.2.2 t1 1) fun q21 => gf_nn (u19.2.2 t0 5) fun q23 => (gf_Calculator_divide F z u19 t0 q21 q23).bind fun u25 => gf_nn (u25.2.2 t1 1) fun q27 => gf_nn (u25.2.2 t0 0) fun q29 => (gf_Whole_copyFrom F z u25 q27 q29).bind fun u31 => some u31
def gf_Calculator_reduce (F : Nat) (z : gw_Sh) (u : gw_St) (t0 : Nat) (t1 : Nat) : Option gw_St := gf_Calculator_reduce_b0 F z  u t0 t1
set_option maxHeartbeats 4000000 in
set_option maxRecDepth 20000 in
theorem gx_Calculator_reduce_b0 {p : Program} {l : Launch} {e : Env} {s : State} {m : MethodId} {args : Array Value} {below : List Frame} {meth : Method} {c : Code} {D : va_G} {cA : Nat → ClassId} {hs : Nat → Nat} {z : gw_Sh} (F : Nat) {r0 : gw_St} (C : gw_Cx p s m args c gb_Calculator_reduce 2 R_Calculator D cA) (hr : meth.sig.returnType = none) (hk : meth.locks = false) (u : gw_St) (t0 : Nat) (t1 : Nat) (o_t0 : gw_ok z t0 7) (o_t1 : gw_ok z t1 6) {H : Heap} {locs : List Loc} {ls : Array Slot} (hW : gw_Wx D cA hs z s u H locs) (hl : lv_has ls 2 [(0, .ref (hs t0)), (1, .ref (hs t1))]) (h : gf_Calculator_reduce_b0 F z   u t0 t1 = some r0) : gw_Gv p l e gr_Calculator_reduce s m args below meth c D cA hs z r0 H locs ls 0 [] := by
  obtain ⟨hx, hb, hml, hown, hts, hK⟩ := id C
  unfold gf_Calculator_reduce_b0 at h
  refine lv_aload_n hx hb gd_Calculator_reduce_0 rfl (lv_at hl 0 rfl) ?_
  refine lv_aload_n hx hb gd_Calculator_reduce_1 rfl (lv_at hl 1 rfl) ?_
  obtain ⟨q1, e2, h⟩ := gf_nn_ok h
  refine gw_getr (k := 0) (ty := 8) (ref := R_Fraction) C hW o_t1 (by decide) rfl gi_Fraction rfl (by decide) rfl rfl gk_101 gd_Calculator_reduce_2 e2 ?_
  have o_q1 := hW.ref (d := 8) o_t1 e2 rfl
  refine lv_aload_n hx hb gd_Calculator_reduce_5 rfl (lv_at hl 1 rfl) ?_
  obtain ⟨q3, e4, h⟩ := gf_nn_ok h
  refine gw_getr (k := 1) (ty := 8) (ref := R_Fraction) C hW o_t1 (by decide) rfl gi_Fraction rfl (by decide) rfl rfl gk_102 gd_Calculator_reduce_6 e4 ?_
  have o_q3 := hW.ref (d := 8) o_t1 e4 rfl
  refine lv_aload_n hx hb gd_Calculator_reduce_9 rfl (lv_at hl 0 rfl) ?_
  obtain ⟨q5, e6, h⟩ := gf_nn_ok h
  refine gw_getr (k := 5) (ty := 8) (ref := R_Calculator) C hW o_t0 (by decide) rfl gi_Calculator rfl (by decide) rfl rfl gk_103 gd_Calculator_reduce_10 e6 ?_
  have o_q5 := hW.ref (d := 8) o_t0 e6 rfl
  obtain ⟨u7, d8, h⟩ := gf_bd_ok h
  refine gw_callVv (K := R_Calculator) (As := [.ref (hs q1), .ref (hs q3), .ref (hs q5)]) (rest := []) C hW (fun _ h => Or.inr h) hl.1 gm_Calculator_findDivisor (gc_Calculator_findDivisor l F o_t0 o_q1 o_q3 o_q5 d8 _) gk_104 gk_105 gk_106 o_t0 (by decide) rfl rfl rfl ⟨Nat.le_of_ble_eq_true rfl, Nat.le_of_ble_eq_true rfl⟩ ⟨Nat.zero_le _, Nat.zero_le _⟩ rfl rfl (Nat.le_of_ble_eq_true rfl) gd_Calculator_reduce_13 (fun H locs hW => ?_)
  refine lv_aload_n hx hb gd_Calculator_reduce_16 rfl (lv_at hl 0 rfl) ?_
  refine lv_aload_n hx hb gd_Calculator_reduce_17 rfl (lv_at hl 1 rfl) ?_
  obtain ⟨q9, e10, h⟩ := gf_nn_ok h
  refine gw_getr (k := 0) (ty := 8) (ref := R_Fraction) C hW o_t1 (by decide) rfl gi_Fraction rfl (by decide) rfl rfl gk_101 gd_Calculator_reduce_18 e10 ?_
  have o_q9 := hW.ref (d := 8) o_t1 e10 rfl
  refine lv_aload_n hx hb gd_Calculator_reduce_21 rfl (lv_at hl 0 rfl) ?_
  obtain ⟨q11, e12, h⟩ := gf_nn_ok h
  refine gw_getr (k := 5) (ty := 8) (ref := R_Calculator) C hW o_t0 (by decide) rfl gi_Calculator rfl (by decide) rfl rfl gk_103 gd_Calculator_reduce_22 e12 ?_
  have o_q11 := hW.ref (d := 8) o_t0 e12 rfl
  obtain ⟨u13, d14, h⟩ := gf_bd_ok h
  refine gw_callVv (K := R_Calculator) (As := [.ref (hs q9), .ref (hs q11)]) (rest := []) C hW (fun _ h => Or.inr h) hl.1 gm_Calculator_divide (gc_Calculator_divide l F o_t0 o_q9 o_q11 d14 _) gk_97 gk_98 gk_99 o_t0 (by decide) rfl rfl rfl ⟨Nat.le_of_ble_eq_true rfl, Nat.le_of_ble_eq_true rfl⟩ ⟨Nat.zero_le _, Nat.zero_le _⟩ rfl rfl (Nat.le_of_ble_eq_true rfl) gd_Calculator_reduce_25 (fun H locs hW => ?_)
  refine lv_aload_n hx hb gd_Calculator_reduce_28 rfl (lv_at hl 1 rfl) ?_
  obtain ⟨q15, e16, h⟩ := gf_nn_ok h
  refine gw_getr (k := 0) (ty := 8) (ref := R_Fraction) C hW o_t1 (by decide) rfl gi_Fraction rfl (by decide) rfl rfl gk_101 gd_Calculator_reduce_29 e16 ?_
  have o_q15 := hW.ref (d := 8) o_t1 e16 rfl
  refine lv_aload_n hx hb gd_Calculator_reduce_32 rfl (lv_at hl 0 rfl) ?_
  obtain ⟨q17, e18, h⟩ := gf_nn_ok h
  refine gw_getr (k := 0) (ty := 8) (ref := R_Calculator) C hW o_t0 (by decide) rfl gi_Calculator rfl (by decide) rfl rfl gk_69 gd_Calculator_reduce_33 e18 ?_
  have o_q17 := hW.ref (d := 8) o_t0 e18 rfl
  obtain ⟨u19, d20, h⟩ := gf_bd_ok h
  refine gw_callVv (K := R_Whole) (As := [.ref (hs q17)]) (rest := []) C hW (fun _ h => Or.inr h) hl.1 gm_Whole_copyFrom (gc_Whole_copyFrom l F o_q15 o_q17 d20 _) gk_74 gk_62 gk_63 o_q15 (by decide) rfl rfl rfl ⟨Nat.le_of_ble_eq_true rfl, Nat.le_of_ble_eq_true rfl⟩ ⟨Nat.zero_le _, Nat.zero_le _⟩ rfl rfl (Nat.le_of_ble_eq_true rfl) gd_Calculator_reduce_36 (fun H locs hW => ?_)
  refine lv_aload_n hx hb gd_Calculator_reduce_39 rfl (lv_at hl 0 rfl) ?_
  refine lv_aload_n hx hb gd_Calculator_reduce_40 rfl (lv_at hl 1 rfl) ?_
  obtain ⟨q21, e22, h⟩ := gf_nn_ok h
  refine gw_getr (k := 1) (ty := 8) (ref := R_Fraction) C hW o_t1 (by decide) rfl gi_Fraction rfl (by decide) rfl rfl gk_102 gd_Calculator_reduce_41 e22 ?_
  have o_q21 := hW.ref (d := 8) o_t1 e22 rfl
  refine lv_aload_n hx hb gd_Calculator_reduce_44 rfl (lv_at hl 0 rfl) ?_
  obtain ⟨q23, e24, h⟩ := gf_nn_ok h
  refine gw_getr (k := 5) (ty := 8) (ref := R_Calculator) C hW o_t0 (by decide) rfl gi_Calculator rfl (by decide) rfl rfl gk_103 gd_Calculator_reduce_45 e24 ?_
  have o_q23 := hW.ref (d := 8) o_t0 e24 rfl
  obtain ⟨u25, d26, h⟩ := gf_bd_ok h
  refine gw_callVv (K := R_Calculator) (As := [.ref (hs q21), .ref (hs q23)]) (rest := []) C hW (fun _ h => Or.inr h) hl.1 gm_Calculator_divide (gc_Calculator_divide l F o_t0 o_q21 o_q23 d26 _) gk_97 gk_98 gk_99 o_t0 (by decide) rfl rfl rfl ⟨Nat.le_of_ble_eq_true rfl, Nat.le_of_ble_eq_true rfl⟩ ⟨Nat.zero_le _, Nat.zero_le _⟩ rfl rfl (Nat.le_of_ble_eq_true rfl) gd_Calculator_reduce_48 (fun H locs hW => ?_)
  refine lv_aload_n hx hb gd_Calculator_reduce_51 rfl (lv_at hl 1 rfl) ?_
  obtain ⟨q27, e28, h⟩ := gf_nn_ok h
  refine gw_getr (k := 1) (ty := 8) (ref := R_Fraction) C hW o_t1 (by decide) rfl gi_Fraction rfl (by decide) rfl rfl gk_102 gd_Calculator_reduce_52 e28 ?_
  have o_q27 := hW.ref (d := 8) o_t1 e28 rfl
  refine lv_aload_n hx hb gd_Calculator_reduce_55 rfl (lv_at hl 0 rfl) ?_
  obtain ⟨q29, e30, h⟩ := gf_nn_ok h
  refine gw_getr (k := 0) (ty := 8) (ref := R_Calculator) C hW o_t0 (by decide) rfl gi_Calculator rfl (by decide) rfl rfl gk_69 gd_Calculator_reduce_56 e30 ?_
  have o_q29 := hW.ref (d := 8) o_t0 e30 rfl
  obtain ⟨u31, d32, h⟩ := gf_bd_ok h
  refine gw_callVv (K := R_Whole) (As := [.ref (hs q29)]) (rest := []) C hW (fun _ h => Or.inr h) hl.1 gm_Whole_copyFrom (gc_Whole_copyFrom l F o_q27 o_q29 d32 _) gk_74 gk_62 gk_63 o_q27 (by decide) rfl rfl rfl ⟨Nat.le_of_ble_eq_true rfl, Nat.le_of_ble_eq_true rfl⟩ ⟨Nat.zero_le _, Nat.zero_le _⟩ rfl rfl (Nat.le_of_ble_eq_true rfl) gd_Calculator_reduce_59 (fun H locs hW => ?_)
  obtain rfl := Option.some.inj h
  exact gw_vret C hW hr hk gd_Calculator_reduce_62

set_option maxRecDepth 20000 in
theorem gc_Calculator_reduce (l : Launch) {D : va_G} {cA : Nat → ClassId} {hs : Nat → Nat} {z : gw_Sh} (F : Nat) {u : gw_St} {r0 : gw_St} {t0 : Nat} {t1 : Nat} (o_t0 : gw_ok z t0 7) (o_t1 : gw_ok z t1 6) (h : gf_Calculator_reduce F z u t0 t1 = some r0) (sz : Nat) : gw_Mv l gy_Calculator_reduce gb_Calculator_reduce 2 none gr_Calculator_reduce [.ref (hs t0), .ref (hs t1)] D cA hs z u sz r0 := by
  refine gw_enter (by decide) (Nat.le_of_ble_eq_true rfl) ?_
  intro p e s m below meth c ls hsz C hW hr hk _ hl
  subst hsz
  exact gx_Calculator_reduce_b0 F C hr hk u t0 t1 o_t0 o_t1 hW (lv_sub hl [0, 1] rfl) h
