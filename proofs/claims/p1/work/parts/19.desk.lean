-- GearDesk.clear()I
theorem gk_352 : Cond.fieldLink R_Desk 19 R_Desk "works" "LGearDesk$Works;" ∈ gt_T := gt_m2 (List.mem_of_getElem? (i := 96) rfl) rfl
theorem gk_353 : Cond.fieldLink R_Desk 128 R_Works "gears" "I" ∈ gt_T := gt_m1 (List.mem_of_getElem? (i := 113) rfl) rfl
theorem gk_354 : Cond.methodLink R_Desk 223 gy_Works_empty ∈ gt_T := gt_m2 (List.mem_of_getElem? (i := 127) rfl) rfl
theorem gk_355 : Cond.instanceMethod gy_Works_empty ∈ gt_T := gt_m2 (List.mem_of_getElem? (i := 128) rfl) rfl
theorem gk_356 : Cond.selects R_Works gy_Works_empty gy_Works_empty ∈ gt_T := gt_m2 (List.mem_of_getElem? (i := 129) rfl) rfl
theorem gk_357 : Cond.fieldLink R_Desk 71 R_Desk "speeds" "LGearDesk$Speeds;" ∈ gt_T := gt_m2 (List.mem_of_getElem? (i := 102) rfl) rfl
theorem gk_358 : Cond.methodLink R_Desk 226 gy_Speeds_forget ∈ gt_T := gt_m2 (List.mem_of_getElem? (i := 131) rfl) rfl
theorem gk_359 : Cond.fieldLink R_Desk 42 R_Desk "dialGears" "[I" ∈ gt_T := gt_m2 (List.mem_of_getElem? (i := 99) rfl) rfl
theorem gk_360 : Cond.methodLink R_Desk 78 gy_Arrays_fill1 ∈ gt_T := gt_m2 (List.mem_of_getElem? (i := 92) rfl) rfl
theorem gk_361 : Cond.initialized R_Desk ∈ gt_T := gt_m1 (List.mem_of_getElem? (i := 1) rfl) rfl
def gy_Desk_clear : MethodName := ⟨R_Desk, "clear", "()I"⟩
abbrev gb_Desk_clear : ByteArray := prog_1_method_22_code
theorem gk_362 : Cond.code gy_Desk_clear gb_Desk_clear 2 (some .int) ∈ gt_T := gt_m2 (List.mem_of_getElem? (i := 126) rfl) rfl
def gr_Desk_clear : Room := gw_rm 2 87
theorem gm_Desk_clear : gw_Mth gy_Desk_clear gb_Desk_clear 2 (some .int) 0 := ⟨gk_362, gk_361, ⟨by decide +kernel, by decide +kernel⟩, by decide +kernel⟩
theorem gd_Desk_clear_0 : decode gb_Desk_clear 0 = .ok (.aload_n 0, 1) := by decide +kernel
theorem gd_Desk_clear_1 : decode gb_Desk_clear 1 = .ok (.getfield 19, 3) := by decide +kernel
theorem gd_Desk_clear_4 : decode gb_Desk_clear 4 = .ok (.getfield 128, 3) := by decide +kernel
theorem gd_Desk_clear_7 : decode gb_Desk_clear 7 = .ok (.istore_n 1, 1) := by decide +kernel
theorem gd_Desk_clear_8 : decode gb_Desk_clear 8 = .ok (.aload_n 0, 1) := by decide +kernel
theorem gd_Desk_clear_9 : decode gb_Desk_clear 9 = .ok (.getfield 19, 3) := by decide +kernel
theorem gd_Desk_clear_12 : decode gb_Desk_clear 12 = .ok (.invokevirtual 223, 3) := by decide +kernel
theorem gd_Desk_clear_15 : decode gb_Desk_clear 15 = .ok (.aload_n 0, 1) := by decide +kernel
theorem gd_Desk_clear_16 : decode gb_Desk_clear 16 = .ok (.getfield 71, 3) := by decide +kernel
theorem gd_Desk_clear_19 : decode gb_Desk_clear 19 = .ok (.invokevirtual 226, 3) := by decide +kernel
theorem gd_Desk_clear_22 : decode gb_Desk_clear 22 = .ok (.aload_n 0, 1) := by decide +kernel
theorem gd_Desk_clear_23 : decode gb_Desk_clear 23 = .ok (.getfield 42, 3) := by decide +kernel
theorem gd_Desk_clear_26 : decode gb_Desk_clear 26 = .ok (.iconst (-1), 1) := by decide +kernel
theorem gd_Desk_clear_27 : decode gb_Desk_clear 27 = .ok (.invokestatic 78, 3) := by decide +kernel
theorem gd_Desk_clear_30 : decode gb_Desk_clear 30 = .ok (.iload_n 1, 1) := by decide +kernel
theorem gd_Desk_clear_31 : decode gb_Desk_clear 31 = .ok (.ireturn, 1) := by decide +kernel
def gf_Desk_clear_b0 (F : Nat) (z : gw_Sh)  (u : gw_St) (t0 : Nat) : Option (Int32 × gw_St) :=
  gf_nn (u.2.2 t0 1) fun q1 => gf_nm (u.1 q1 2) fun a3 => gf_nn (u.2.2 t0 1) fun q5 => (gf_Works_empty F z u q5).bind fun u7 => gf_nn (u7.2.2 t0 7) fun q9 => (gf_Speeds_forget F z u7 q9).bind fun u11 => gf_nn (u11.2.2 t0 4) fun q13 => (gf_Arrays_fill1 F z u11 q13 (-1 : Int32)).bind fun u15 => some (a3, u15)
def gf_Desk_clear (F : Nat) (z : gw_Sh) (u : gw_St) (t0 : Nat) : Option (Int32 × gw_St) := gf_Desk_clear_b0 F z  u t0
set_option maxHeartbeats 4000000 in
set_option maxRecDepth 20000 in
theorem gx_Desk_clear_b0 {p : Program} {l : Launch} {e : Env} {s : State} {m : MethodId} {args : Array Value} {below : List Frame} {meth : Method} {c : Code} {D : va_G} {cA : Nat → ClassId} {hs : Nat → Nat} {z : gw_Sh} (F : Nat) {r0 : (Int32 × gw_St)} (C : gw_Cx p s m args c gb_Desk_clear 2 R_Desk D cA) (hr : meth.sig.returnType = (some .int)) (hk : meth.locks = false) (u : gw_St) (t0 : Nat) (o_t0 : gw_ok z t0 0) {H : Heap} {locs : List Loc} {ls : Array Slot} (hW : gw_Wx D cA hs z s u H locs) (hl : lv_has ls 2 [(0, .ref (hs t0))]) (h : gf_Desk_clear_b0 F z   u t0 = some r0) : gw_Gi p l e gr_Desk_clear s m args below meth c D cA hs z r0 H locs ls 0 [] := by
  obtain ⟨hx, hb, hml, hown, hts, hK⟩ := id C
  unfold gf_Desk_clear_b0 at h
  refine lv_aload_n hx hb gd_Desk_clear_0 rfl (lv_at hl 0 rfl) ?_
  obtain ⟨q1, e2, h⟩ := gf_nn_ok h
  refine gw_getr (k := 1) (ty := 2) (ref := R_Desk) C hW o_t0 (by decide) rfl gi_Desk rfl (by decide) rfl rfl gk_352 gd_Desk_clear_1 e2 ?_
  have o_q1 := hW.ref (d := 2) o_t0 e2 rfl
  refine gw_geti (k := 2) (ref := R_Works) C hW o_q1 (by decide) rfl gi_Works rfl (by decide) rfl rfl gk_353 gd_Desk_clear_4 ?_
  refine lv_topi (fun a3 e4 => ?_)
  have h := gf_nm_ok e4 h
  refine lv_istore_n (lv' := [(1, .int a3), (0, .ref (hs t0))]) hx hb gd_Desk_clear_7 rfl hl (by decide) rfl (fun ls hl => ?_)
  refine lv_aload_n hx hb gd_Desk_clear_8 rfl (lv_at hl 1 rfl) ?_
  obtain ⟨q5, e6, h⟩ := gf_nn_ok h
  refine gw_getr (k := 1) (ty := 2) (ref := R_Desk) C hW o_t0 (by decide) rfl gi_Desk rfl (by decide) rfl rfl gk_352 gd_Desk_clear_9 e6 ?_
  have o_q5 := hW.ref (d := 2) o_t0 e6 rfl
  obtain ⟨u7, d8, h⟩ := gf_bd_ok h
  refine gw_callVv (K := R_Works) (As := []) (rest := []) C hW (fun _ h => Or.inr h) hl.1 gm_Works_empty (gc_Works_empty l F o_q5 d8 _) gk_354 gk_355 gk_356 o_q5 (by decide) rfl rfl rfl ⟨Nat.le_of_ble_eq_true rfl, Nat.le_of_ble_eq_true rfl⟩ ⟨Nat.zero_le _, Nat.zero_le _⟩ rfl rfl (Nat.le_of_ble_eq_true rfl) gd_Desk_clear_12 (fun H locs hW => ?_)
  refine lv_aload_n hx hb gd_Desk_clear_15 rfl (lv_at hl 1 rfl) ?_
  obtain ⟨q9, e10, h⟩ := gf_nn_ok h
  refine gw_getr (k := 7) (ty := 3) (ref := R_Desk) C hW o_t0 (by decide) rfl gi_Desk rfl (by decide) rfl rfl gk_357 gd_Desk_clear_16 e10 ?_
  have o_q9 := hW.ref (d := 3) o_t0 e10 rfl
  obtain ⟨u11, d12, h⟩ := gf_bd_ok h
  refine gw_callVv (K := R_Speeds) (As := []) (rest := []) C hW (fun _ h => Or.inr h) hl.1 gm_Speeds_forget (gc_Speeds_forget l F o_q9 d12 _) gk_358 gk_322 gk_323 o_q9 (by decide) rfl rfl rfl ⟨Nat.le_of_ble_eq_true rfl, Nat.le_of_ble_eq_true rfl⟩ ⟨Nat.zero_le _, Nat.zero_le _⟩ rfl rfl (Nat.le_of_ble_eq_true rfl) gd_Desk_clear_19 (fun H locs hW => ?_)
  refine lv_aload_n hx hb gd_Desk_clear_22 rfl (lv_at hl 1 rfl) ?_
  obtain ⟨q13, e14, h⟩ := gf_nn_ok h
  refine gw_getr (k := 4) (ty := 10) (ref := R_Desk) C hW o_t0 (by decide) rfl gi_Desk rfl (by decide) rfl rfl gk_359 gd_Desk_clear_23 e14 ?_
  have o_q13 := hW.ref (d := 10) o_t0 e14 rfl
  refine lv_iconst (v := (-1)) hx hb gd_Desk_clear_26 (by decide) ?_
  obtain ⟨u15, d16, h⟩ := gf_bd_ok h
  refine gw_callSv (As := [.ref (hs q13), .int (-1 : Int32)]) (rest := []) C hW (fun _ h => Or.inr h) hl.1 gm_Arrays_fill1 (gc_Arrays_fill1 l F o_q13 d16 _) gk_360 gk_151 rfl rfl ⟨Nat.le_of_ble_eq_true rfl, Nat.le_of_ble_eq_true rfl⟩ ⟨Nat.zero_le _, Nat.zero_le _⟩ rfl rfl (Nat.le_of_ble_eq_true rfl) gd_Desk_clear_27 (fun H locs hW => ?_)
  refine lv_iload_n hx hb gd_Desk_clear_30 rfl (lv_at hl 0 rfl) ?_
  obtain rfl := Option.some.inj h
  exact gw_iret C hW hr hk gd_Desk_clear_31

set_option maxRecDepth 20000 in
theorem gc_Desk_clear (l : Launch) {D : va_G} {cA : Nat → ClassId} {hs : Nat → Nat} {z : gw_Sh} (F : Nat) {u : gw_St} {r0 : (Int32 × gw_St)} {t0 : Nat} (o_t0 : gw_ok z t0 0) (h : gf_Desk_clear F z u t0 = some r0) (sz : Nat) : gw_Mi l gy_Desk_clear gb_Desk_clear 2 (some .int) gr_Desk_clear [.ref (hs t0)] D cA hs z u sz r0 := by
  refine gw_enter (by decide) (Nat.le_of_ble_eq_true rfl) ?_
  intro p e s m below meth c ls hsz C hW hr hk _ hl
  subst hsz
  exact gx_Desk_clear_b0 F C hr hk u t0 o_t0 hW (lv_sub hl [0] rfl) h
-- GearDesk.dialsInUse()I
def gy_Desk_dialsInUse : MethodName := ⟨R_Desk, "dialsInUse", "()I"⟩
abbrev gb_Desk_dialsInUse : ByteArray := prog_1_method_24_code
theorem gk_363 : Cond.code gy_Desk_dialsInUse gb_Desk_dialsInUse 3 (some .int) ∈ gt_T := gt_m2 (List.mem_of_getElem? (i := 142) rfl) rfl
def gr_Desk_dialsInUse : Room := gw_rm 1 64
theorem gm_Desk_dialsInUse : gw_Mth gy_Desk_dialsInUse gb_Desk_dialsInUse 3 (some .int) 0 := ⟨gk_363, gk_361, ⟨by decide +kernel, by decide +kernel⟩, by decide +kernel⟩
theorem gd_Desk_dialsInUse_0 : decode gb_Desk_dialsInUse 0 = .ok (.iconst 0, 1) := by decide +kernel
theorem gd_Desk_dialsInUse_1 : decode gb_Desk_dialsInUse 1 = .ok (.istore_n 1, 1) := by decide +kernel
theorem gd_Desk_dialsInUse_2 : decode gb_Desk_dialsInUse 2 = .ok (.iconst 0, 1) := by decide +kernel
theorem gd_Desk_dialsInUse_3 : decode gb_Desk_dialsInUse 3 = .ok (.istore_n 2, 1) := by decide +kernel
theorem gd_Desk_dialsInUse_4 : decode gb_Desk_dialsInUse 4 = .ok (.iload_n 2, 1) := by decide +kernel
theorem gd_Desk_dialsInUse_5 : decode gb_Desk_dialsInUse 5 = .ok (.bipush 12, 2) := by decide +kernel
theorem gd_Desk_dialsInUse_7 : decode gb_Desk_dialsInUse 7 = .ok (.if_icmp .ge 22, 3) := by decide +kernel
theorem gd_Desk_dialsInUse_10 : decode gb_Desk_dialsInUse 10 = .ok (.aload_n 0, 1) := by decide +kernel
theorem gd_Desk_dialsInUse_11 : decode gb_Desk_dialsInUse 11 = .ok (.getfield 42, 3) := by decide +kernel
theorem gd_Desk_dialsInUse_14 : decode gb_Desk_dialsInUse 14 = .ok (.iload_n 2, 1) := by decide +kernel
theorem gd_Desk_dialsInUse_15 : decode gb_Desk_dialsInUse 15 = .ok (.iaload, 1) := by decide +kernel
theorem gd_Desk_dialsInUse_16 : decode gb_Desk_dialsInUse 16 = .ok (.iconst (-1), 1) := by decide +kernel
theorem gd_Desk_dialsInUse_17 : decode gb_Desk_dialsInUse 17 = .ok (.if_icmp .eq 6, 3) := by decide +kernel
theorem gd_Desk_dialsInUse_20 : decode gb_Desk_dialsInUse 20 = .ok (.iinc 1 1, 3) := by decide +kernel
theorem gd_Desk_dialsInUse_23 : decode gb_Desk_dialsInUse 23 = .ok (.iinc 2 1, 3) := by decide +kernel
theorem gd_Desk_dialsInUse_26 : decode gb_Desk_dialsInUse 26 = .ok (.goto (-22), 3) := by decide +kernel
theorem gd_Desk_dialsInUse_29 : decode gb_Desk_dialsInUse 29 = .ok (.iload_n 1, 1) := by decide +kernel
theorem gd_Desk_dialsInUse_30 : decode gb_Desk_dialsInUse 30 = .ok (.ireturn, 1) := by decide +kernel
def gf_Desk_dialsInUse_b23 (F : Nat) (z : gw_Sh) (rc_4 : gw_St → Nat → Int32 → Int32 → Option (Int32 × gw_St)) (u : gw_St) (t0 : Nat) (x1 : Int32) (x2 : Int32) : Option (Int32 × gw_St) :=
  gf_nm (x2 + 1) fun a1 => rc_4 u t0 x1 a1
def gf_Desk_dialsInUse_S4 (F : Nat) (z : gw_Sh)  (rc_4 : gw_St → Nat → Int32 → Int32 → Option (Int32 × gw_St)) (u : gw_St) (t0 : Nat) (x1 : Int32) (x2 : Int32) : Option (Int32 × gw_St) :=
  if (12 : Int32) ≤ x2 then (some (x1, u)) else (gf_nn (u.2.2 t0 4) fun q4 => if (x2 < 0 ∨ z.2.2 q4 ≤ (x2).toNatClampNeg) then none else if (u.1 q4 (x2).toNatClampNeg) = (-1 : Int32) then (gf_Desk_dialsInUse_b23 F z rc_4 u t0 x1 x2) else (gf_nm (x1 + 1) fun a8 => gf_Desk_dialsInUse_b23 F z rc_4 u t0 a8 x2))
def gf_Desk_dialsInUse_L4 (F : Nat) (z : gw_Sh)  : Nat → gw_St → Nat → Int32 → Int32 → Option (Int32 × gw_St)
  | 0 => fun _ _ _ _ => none
  | n + 1 => fun u t0 x1 x2 => gf_Desk_dialsInUse_S4 F z  (gf_Desk_dialsInUse_L4 F z  n) u t0 x1 x2
def gf_Desk_dialsInUse_b0 (F : Nat) (z : gw_Sh)  (u : gw_St) (t0 : Nat) : Option (Int32 × gw_St) :=
  gf_Desk_dialsInUse_L4 F z  F u t0 0 0
def gf_Desk_dialsInUse (F : Nat) (z : gw_Sh) (u : gw_St) (t0 : Nat) : Option (Int32 × gw_St) := gf_Desk_dialsInUse_b0 F z  u t0
set_option maxHeartbeats 4000000 in
set_option maxRecDepth 20000 in
theorem gx_Desk_dialsInUse_b23 {p : Program} {l : Launch} {e : Env} {s : State} {m : MethodId} {args : Array Value} {below : List Frame} {meth : Method} {c : Code} {D : va_G} {cA : Nat → ClassId} {hs : Nat → Nat} {z : gw_Sh} (F : Nat) {r0 : (Int32 × gw_St)} (C : gw_Cx p s m args c gb_Desk_dialsInUse 3 R_Desk D cA) (hr : meth.sig.returnType = (some .int)) (hk : meth.locks = false) {rc_4 : gw_St → Nat → Int32 → Int32 → Option (Int32 × gw_St)} (k_4 : ∀ (u : gw_St) (t0 : Nat) (x1 : Int32) (x2 : Int32) (H : Heap) (locs : List Loc) (ls : Array Slot), gw_ok z t0 0 → gw_Wx D cA hs z s u H locs → lv_has ls 3 [(0, .ref (hs t0)), (1, .int x1), (2, .int x2)] → rc_4 u t0 x1 x2 = some r0 → gw_Gi p l e gr_Desk_dialsInUse s m args below meth c D cA hs z r0 H locs ls 4 []) (u : gw_St) (t0 : Nat) (x1 : Int32) (x2 : Int32) (o_t0 : gw_ok z t0 0) {H : Heap} {locs : List Loc} {ls : Array Slot} (hW : gw_Wx D cA hs z s u H locs) (hl : lv_has ls 3 [(0, .ref (hs t0)), (1, .int x1), (2, .int x2)]) (h : gf_Desk_dialsInUse_b23 F z rc_4  u t0 x1 x2 = some r0) : gw_Gi p l e gr_Desk_dialsInUse s m args below meth c D cA hs z r0 H locs ls 23 [] := by
  obtain ⟨hx, hb, hml, hown, hts, hK⟩ := id C
  unfold gf_Desk_dialsInUse_b23 at h
  obtain ⟨a1, e2⟩ : ∃ y : Int32, y = x2 + 1 := ⟨_, rfl⟩
  have h := gf_nm_ok e2 h
  refine lv_iinc (v := a1) (lv' := [(2, .int a1), (0, .ref (hs t0)), (1, .int x1)]) hx hb gd_Desk_dialsInUse_23 hl (k := 2) rfl (by rw [e2]; rfl) (by decide) rfl (fun ls hl => ?_)
  refine lv_goto (tgt := 4) hx hb gd_Desk_dialsInUse_26 (by decide) ?_
  exact k_4 u t0 x1 a1 _ _ _ o_t0 hW (lv_sub hl [1, 2, 0] rfl) h

set_option maxHeartbeats 4000000 in
set_option maxRecDepth 20000 in
theorem gx_Desk_dialsInUse_S4 {p : Program} {l : Launch} {e : Env} {s : State} {m : MethodId} {args : Array Value} {below : List Frame} {meth : Method} {c : Code} {D : va_G} {cA : Nat → ClassId} {hs : Nat → Nat} {z : gw_Sh} (F : Nat) {r0 : (Int32 × gw_St)} (C : gw_Cx p s m args c gb_Desk_dialsInUse 3 R_Desk D cA) (hr : meth.sig.returnType = (some .int)) (hk : meth.locks = false) {rc_4 : gw_St → Nat → Int32 → Int32 → Option (Int32 × gw_St)} (k_4 : ∀ (u : gw_St) (t0 : Nat) (x1 : Int32) (x2 : Int32) (H : Heap) (locs : List Loc) (ls : Array Slot), gw_ok z t0 0 → gw_Wx D cA hs z s u H locs → lv_has ls 3 [(0, .ref (hs t0)), (1, .int x1), (2, .int x2)] → rc_4 u t0 x1 x2 = some r0 → gw_Gi p l e gr_Desk_dialsInUse s m args below meth c D cA hs z r0 H locs ls 4 []) (u : gw_St) (t0 : Nat) (x1 : Int32) (x2 : Int32) (o_t0 : gw_ok z t0 0) {H : Heap} {locs : List Loc} {ls : Array Slot} (hW : gw_Wx D cA hs z s u H locs) (hl : lv_has ls 3 [(0, .ref (hs t0)), (1, .int x1), (2, .int x2)]) (h : gf_Desk_dialsInUse_S4 F z  rc_4 u t0 x1 x2 = some r0) : gw_Gi p l e gr_Desk_dialsInUse s m args below meth c D cA hs z r0 H locs ls 4 [] := by
  obtain ⟨hx, hb, hml, hown, hts, hK⟩ := id C
  unfold gf_Desk_dialsInUse_S4 at h
  refine lv_iload_n hx hb gd_Desk_dialsInUse_4 rfl (lv_at hl 2 rfl) ?_
  refine lv_bipush (v := 12) hx hb gd_Desk_dialsInUse_5 (by decide) ?_
  refine lv_icmp_ge (tgt := 29) hx hb gd_Desk_dialsInUse_7 (by decide) (fun c3 => ?_) (fun c3 => ?_)
  · have h := gf_t c3 h
    refine lv_iload_n hx hb gd_Desk_dialsInUse_29 rfl (lv_at hl 1 rfl) ?_
    obtain rfl := Option.some.inj h
    exact gw_iret C hW hr hk gd_Desk_dialsInUse_30
  · have h := gf_f c3 h
    refine lv_aload_n hx hb gd_Desk_dialsInUse_10 rfl (lv_at hl 0 rfl) ?_
    obtain ⟨q4, e5, h⟩ := gf_nn_ok h
    refine gw_getr (k := 4) (ty := 10) (ref := R_Desk) C hW o_t0 (by decide) rfl gi_Desk rfl (by decide) rfl rfl gk_359 gd_Desk_dialsInUse_11 e5 ?_
    have o_q4 := hW.ref (d := 10) o_t0 e5 rfl
    refine lv_iload_n hx hb gd_Desk_dialsInUse_14 rfl (lv_at hl 2 rfl) ?_
    obtain ⟨g6, h⟩ := gf_if_ok h
    refine gw_iald C hW o_q4 g6 gd_Desk_dialsInUse_15 ?_
    refine lv_iconst (v := (-1)) hx hb gd_Desk_dialsInUse_16 (by decide) ?_
    refine lv_icmp_eq (tgt := 23) hx hb gd_Desk_dialsInUse_17 (by decide) (fun c7 => ?_) (fun c7 => ?_)
    · have h := gf_t c7 h
      exact gx_Desk_dialsInUse_b23 F C hr hk k_4 u t0 x1 x2 o_t0 hW (lv_sub hl [0, 1, 2] rfl) h
    · have h := gf_f c7 h
      obtain ⟨a8, e9⟩ : ∃ y : Int32, y = x1 + 1 := ⟨_, rfl⟩
      have h := gf_nm_ok e9 h
      refine lv_iinc (v := a8) (lv' := [(1, .int a8), (0, .ref (hs t0)), (2, .int x2)]) hx hb gd_Desk_dialsInUse_20 hl (k := 1) rfl (by rw [e9]; rfl) (by decide) rfl (fun ls hl => ?_)
      exact gx_Desk_dialsInUse_b23 F C hr hk k_4 u t0 a8 x2 o_t0 hW (lv_sub hl [1, 0, 2] rfl) h
set_option maxHeartbeats 4000000 in
set_option maxRecDepth 20000 in
theorem gx_Desk_dialsInUse_L4 {p : Program} {l : Launch} {e : Env} {s : State} {m : MethodId} {args : Array Value} {below : List Frame} {meth : Method} {c : Code} {D : va_G} {cA : Nat → ClassId} {hs : Nat → Nat} {z : gw_Sh} (F : Nat) {r0 : (Int32 × gw_St)} (C : gw_Cx p s m args c gb_Desk_dialsInUse 3 R_Desk D cA) (hr : meth.sig.returnType = (some .int)) (hk : meth.locks = false) : ∀ (n : Nat), ∀ (u : gw_St) (t0 : Nat) (x1 : Int32) (x2 : Int32) (H : Heap) (locs : List Loc) (ls : Array Slot), gw_ok z t0 0 → gw_Wx D cA hs z s u H locs → lv_has ls 3 [(0, .ref (hs t0)), (1, .int x1), (2, .int x2)] → gf_Desk_dialsInUse_L4 F z  n u t0 x1 x2 = some r0 → gw_Gi p l e gr_Desk_dialsInUse s m args below meth c D cA hs z r0 H locs ls 4 [] := by
  intro n
  induction n with
  | zero =>
    intro u t0 x1 x2 H locs ls o_t0 hW hl h
    cases h
  | succ n ih =>
    intro u t0 x1 x2 H locs ls o_t0 hW hl h
    exact gx_Desk_dialsInUse_S4 F C hr hk  ih u t0 x1 x2 o_t0 hW hl h

set_option maxHeartbeats 4000000 in
set_option maxRecDepth 20000 in
theorem gx_Desk_dialsInUse_b0 {p : Program} {l : Launch} {e : Env} {s : State} {m : MethodId} {args : Array Value} {below : List Frame} {meth : Method} {c : Code} {D : va_G} {cA : Nat → ClassId} {hs : Nat → Nat} {z : gw_Sh} (F : Nat) {r0 : (Int32 × gw_St)} (C : gw_Cx p s m args c gb_Desk_dialsInUse 3 R_Desk D cA) (hr : meth.sig.returnType = (some .int)) (hk : meth.locks = false) (u : gw_St) (t0 : Nat) (o_t0 : gw_ok z t0 0) {H : Heap} {locs : List Loc} {ls : Array Slot} (hW : gw_Wx D cA hs z s u H locs) (hl : lv_has ls 3 [(0, .ref (hs t0))]) (h : gf_Desk_dialsInUse_b0 F z   u t0 = some r0) : gw_Gi p l e gr_Desk_dialsInUse s m args below meth c D cA hs z r0 H locs ls 0 [] := by
  obtain ⟨hx, hb, hml, hown, hts, hK⟩ := id C
  unfold gf_Desk_dialsInUse_b0 at h
  refine lv_iconst (v := 0) hx hb gd_Desk_dialsInUse_0 (by decide) ?_
  refine lv_istore_n (lv' := [(1, .int 0), (0, .ref (hs t0))]) hx hb gd_Desk_dialsInUse_1 rfl hl (by decide) rfl (fun ls hl => ?_)
  refine lv_iconst (v := 0) hx hb gd_Desk_dialsInUse_2 (by decide) ?_
  refine lv_istore_n (lv' := [(2, .int 0), (1, .int 0), (0, .ref (hs t0))]) hx hb gd_Desk_dialsInUse_3 rfl hl (by decide) rfl (fun ls hl => ?_)
  exact gx_Desk_dialsInUse_L4 F C hr hk  F u t0 0 0 _ _ _ o_t0 hW (lv_sub hl [2, 1, 0] rfl) h

set_option maxRecDepth 20000 in
theorem gc_Desk_dialsInUse (l : Launch) {D : va_G} {cA : Nat → ClassId} {hs : Nat → Nat} {z : gw_Sh} (F : Nat) {u : gw_St} {r0 : (Int32 × gw_St)} {t0 : Nat} (o_t0 : gw_ok z t0 0) (h : gf_Desk_dialsInUse F z u t0 = some r0) (sz : Nat) : gw_Mi l gy_Desk_dialsInUse gb_Desk_dialsInUse 3 (some .int) gr_Desk_dialsInUse [.ref (hs t0)] D cA hs z u sz r0 := by
  refine gw_enter (by decide) (Nat.le_of_ble_eq_true rfl) ?_
  intro p e s m below meth c ls hsz C hW hr hk _ hl
  subst hsz
  exact gx_Desk_dialsInUse_b0 F C hr hk u t0 o_t0 hW (lv_sub hl [0] rfl) h
-- GearDesk.count(I)I
theorem gk_364 : Cond.fieldLink R_Desk 158 R_Works "relations" "I" ∈ gt_T := gt_m1 (List.mem_of_getElem? (i := 116) rfl) rfl
theorem gk_365 : Cond.methodLink R_Desk 229 gy_Desk_dialsInUse ∈ gt_T := gt_m2 (List.mem_of_getElem? (i := 139) rfl) rfl
theorem gk_366 : Cond.instanceMethod gy_Desk_dialsInUse ∈ gt_T := gt_m2 (List.mem_of_getElem? (i := 141) rfl) rfl
theorem gk_367 : Cond.selects R_Desk gy_Desk_dialsInUse gy_Desk_dialsInUse ∈ gt_T := gt_p1 (List.mem_of_getElem? (i := 0) rfl) rfl
theorem gk_368 : Cond.methodLink R_Desk 232 gy_Speeds_howMany ∈ gt_T := gt_m2 (List.mem_of_getElem? (i := 143) rfl) rfl
theorem gk_369 : Cond.instanceMethod gy_Speeds_howMany ∈ gt_T := gt_m2 (List.mem_of_getElem? (i := 144) rfl) rfl
theorem gk_370 : Cond.selects R_Speeds gy_Speeds_howMany gy_Speeds_howMany ∈ gt_T := gt_m2 (List.mem_of_getElem? (i := 145) rfl) rfl
theorem gk_371 : Cond.fieldLink R_Desk 10 R_Desk "trains" "LGearDesk$Trains;" ∈ gt_T := gt_m2 (List.mem_of_getElem? (i := 95) rfl) rfl
theorem gk_372 : Cond.methodLink R_Desk 106 gy_Trains_choicesLeft ∈ gt_T := gt_m2 (List.mem_of_getElem? (i := 147) rfl) rfl
theorem gk_373 : Cond.instanceMethod gy_Trains_choicesLeft ∈ gt_T := gt_m2 (List.mem_of_getElem? (i := 148) rfl) rfl
theorem gk_374 : Cond.selects R_Trains gy_Trains_choicesLeft gy_Trains_choicesLeft ∈ gt_T := gt_m2 (List.mem_of_getElem? (i := 149) rfl) rfl
def gy_Desk_count : MethodName := ⟨R_Desk, "count", "(I)I"⟩
abbrev gb_Desk_count : ByteArray := prog_1_method_23_code
theorem gk_375 : Cond.code gy_Desk_count gb_Desk_count 2 (some .int) ∈ gt_T := gt_m2 (List.mem_of_getElem? (i := 138) rfl) rfl
def gr_Desk_count : Room := gw_rm 2 86
theorem gm_Desk_count : gw_Mth gy_Desk_count gb_Desk_count 2 (some .int) 1 := ⟨gk_375, gk_361, ⟨by decide +kernel, by decide +kernel⟩, by decide +kernel⟩
theorem gd_Desk_count_0 : decode gb_Desk_count 0 = .ok (.iload_n 1, 1) := by decide +kernel
theorem gd_Desk_count_1 : decode gb_Desk_count 1 = .ok (.tableswitch 72 0 4 #[35, 43, 51, 56, 64], 35) := by decide +kernel
theorem gd_Desk_count_36 : decode gb_Desk_count 36 = .ok (.aload_n 0, 1) := by decide +kernel
theorem gd_Desk_count_37 : decode gb_Desk_count 37 = .ok (.getfield 19, 3) := by decide +kernel
theorem gd_Desk_count_40 : decode gb_Desk_count 40 = .ok (.getfield 128, 3) := by decide +kernel
theorem gd_Desk_count_43 : decode gb_Desk_count 43 = .ok (.ireturn, 1) := by decide +kernel
theorem gd_Desk_count_44 : decode gb_Desk_count 44 = .ok (.aload_n 0, 1) := by decide +kernel
theorem gd_Desk_count_45 : decode gb_Desk_count 45 = .ok (.getfield 19, 3) := by decide +kernel
theorem gd_Desk_count_48 : decode gb_Desk_count 48 = .ok (.getfield 158, 3) := by decide +kernel
theorem gd_Desk_count_51 : decode gb_Desk_count 51 = .ok (.ireturn, 1) := by decide +kernel
theorem gd_Desk_count_52 : decode gb_Desk_count 52 = .ok (.aload_n 0, 1) := by decide +kernel
theorem gd_Desk_count_53 : decode gb_Desk_count 53 = .ok (.invokevirtual 229, 3) := by decide +kernel
theorem gd_Desk_count_56 : decode gb_Desk_count 56 = .ok (.ireturn, 1) := by decide +kernel
theorem gd_Desk_count_57 : decode gb_Desk_count 57 = .ok (.aload_n 0, 1) := by decide +kernel
theorem gd_Desk_count_58 : decode gb_Desk_count 58 = .ok (.getfield 71, 3) := by decide +kernel
theorem gd_Desk_count_61 : decode gb_Desk_count 61 = .ok (.invokevirtual 232, 3) := by decide +kernel
theorem gd_Desk_count_64 : decode gb_Desk_count 64 = .ok (.ireturn, 1) := by decide +kernel
theorem gd_Desk_count_65 : decode gb_Desk_count 65 = .ok (.aload_n 0, 1) := by decide +kernel
theorem gd_Desk_count_66 : decode gb_Desk_count 66 = .ok (.getfield 10, 3) := by decide +kernel
theorem gd_Desk_count_69 : decode gb_Desk_count 69 = .ok (.invokevirtual 106, 3) := by decide +kernel
theorem gd_Desk_count_72 : decode gb_Desk_count 72 = .ok (.ireturn, 1) := by decide +kernel
theorem gd_Desk_count_73 : decode gb_Desk_count 73 = .ok (.iconst (-1), 1) := by decide +kernel
theorem gd_Desk_count_74 : decode gb_Desk_count 74 = .ok (.ireturn, 1) := by decide +kernel
def gf_Desk_count_b0 (F : Nat) (z : gw_Sh)  (u : gw_St) (t0 : Nat) (x1 : Int32) : Option (Int32 × gw_St) :=
  if x1 = 0 then (gf_nn (u.2.2 t0 1) fun q2 => some ((u.1 q2 2), u)) else (if x1 = 1 then (gf_nn (u.2.2 t0 1) fun q5 => some ((u.1 q5 3), u)) else (if x1 = 2 then (gf_cl (gf_Desk_dialsInUse F z u t0) fun a10 u8 => some (a10, u8)) else (if x1 = 3 then (gf_nn (u.2.2 t0 7) fun q12 => gf_cl (gf_Speeds_howMany F z u q12) fun a16 u14 => some (a16, u14)) else (if x1 = 4 then (gf_nn (u.2.2 t0 0) fun q18 => gf_cl (gf_Trains_choicesLeft F z u q18) fun a22 u20 => some (a22, u20)) else (some ((-1 : Int32), u))))))
def gf_Desk_count (F : Nat) (z : gw_Sh) (u : gw_St) (t0 : Nat) (x1 : Int32) : Option (Int32 × gw_St) := gf_Desk_count_b0 F z  u t0 x1
set_option maxHeartbeats 4000000 in
set_option maxRecDepth 20000 in
theorem gx_Desk_count_b0 {p : Program} {l : Launch} {e : Env} {s : State} {m : MethodId} {args : Array Value} {below : List Frame} {meth : Method} {c : Code} {D : va_G} {cA : Nat → ClassId} {hs : Nat → Nat} {z : gw_Sh} (F : Nat) {r0 : (Int32 × gw_St)} (C : gw_Cx p s m args c gb_Desk_count 2 R_Desk D cA) (hr : meth.sig.returnType = (some .int)) (hk : meth.locks = false) (u : gw_St) (t0 : Nat) (x1 : Int32) (o_t0 : gw_ok z t0 0) {H : Heap} {locs : List Loc} {ls : Array Slot} (hW : gw_Wx D cA hs z s u H locs) (hl : lv_has ls 2 [(0, .ref (hs t0)), (1, .int x1)]) (h : gf_Desk_count_b0 F z   u t0 x1 = some r0) : gw_Gi p l e gr_Desk_count s m args below meth c D cA hs z r0 H locs ls 0 [] := by
  obtain ⟨hx, hb, hml, hown, hts, hK⟩ := id C
  unfold gf_Desk_count_b0 at h
  refine lv_iload_n hx hb gd_Desk_count_0 rfl (lv_at hl 1 rfl) ?_
  by_cases c1 : x1 = 0
  · have h := gf_t c1 h
    refine lv_tableIn (x := x1) (off := 35) (tgt := 36) hx hb gd_Desk_count_1 (by rw [c1]; decide) (by rw [c1]; decide) (by rw [c1]; rfl) (by decide) ?_
    refine lv_aload_n hx hb gd_Desk_count_36 rfl (lv_at hl 0 rfl) ?_
    obtain ⟨q2, e3, h⟩ := gf_nn_ok h
    refine gw_getr (k := 1) (ty := 2) (ref := R_Desk) C hW o_t0 (by decide) rfl gi_Desk rfl (by decide) rfl rfl gk_352 gd_Desk_count_37 e3 ?_
    have o_q2 := hW.ref (d := 2) o_t0 e3 rfl
    refine gw_geti (k := 2) (ref := R_Works) C hW o_q2 (by decide) rfl gi_Works rfl (by decide) rfl rfl gk_353 gd_Desk_count_40 ?_
    obtain rfl := Option.some.inj h
    exact gw_iret C hW hr hk gd_Desk_count_43
  · have h := gf_f c1 h
    by_cases c4 : x1 = 1
    · have h := gf_t c4 h
      refine lv_tableIn (x := x1) (off := 43) (tgt := 44) hx hb gd_Desk_count_1 (by rw [c4]; decide) (by rw [c4]; decide) (by rw [c4]; rfl) (by decide) ?_
      refine lv_aload_n hx hb gd_Desk_count_44 rfl (lv_at hl 0 rfl) ?_
      obtain ⟨q5, e6, h⟩ := gf_nn_ok h
      refine gw_getr (k := 1) (ty := 2) (ref := R_Desk) C hW o_t0 (by decide) rfl gi_Desk rfl (by decide) rfl rfl gk_352 gd_Desk_count_45 e6 ?_
      have o_q5 := hW.ref (d := 2) o_t0 e6 rfl
      refine gw_geti (k := 3) (ref := R_Works) C hW o_q5 (by decide) rfl gi_Works rfl (by decide) rfl rfl gk_364 gd_Desk_count_48 ?_
      obtain rfl := Option.some.inj h
      exact gw_iret C hW hr hk gd_Desk_count_51
    · have h := gf_f c4 h
      by_cases c7 : x1 = 2
      · have h := gf_t c7 h
        refine lv_tableIn (x := x1) (off := 51) (tgt := 52) hx hb gd_Desk_count_1 (by rw [c7]; decide) (by rw [c7]; decide) (by rw [c7]; rfl) (by decide) ?_
        refine lv_aload_n hx hb gd_Desk_count_52 rfl (lv_at hl 0 rfl) ?_
        obtain ⟨a10, u8, d9, h⟩ := gf_cl_ok h
        refine gw_callVi (K := R_Desk) (As := []) (rest := []) C hW (fun _ h => Or.inr h) hl.1 gm_Desk_dialsInUse (gc_Desk_dialsInUse l F o_t0 d9 _) gk_365 gk_366 gk_367 o_t0 (by decide) rfl rfl rfl ⟨Nat.le_of_ble_eq_true rfl, Nat.le_of_ble_eq_true rfl⟩ ⟨Nat.zero_le _, Nat.zero_le _⟩ rfl rfl (Nat.le_of_ble_eq_true rfl) gd_Desk_count_53 (fun H locs hW => ?_)
        obtain rfl := Option.some.inj h
        exact gw_iret C hW hr hk gd_Desk_count_56
      · have h := gf_f c7 h
        by_cases c11 : x1 = 3
        · have h := gf_t c11 h
          refine lv_tableIn (x := x1) (off := 56) (tgt := 57) hx hb gd_Desk_count_1 (by rw [c11]; decide) (by rw [c11]; decide) (by rw [c11]; rfl) (by decide) ?_
          refine lv_aload_n hx hb gd_Desk_count_57 rfl (lv_at hl 0 rfl) ?_
          obtain ⟨q12, e13, h⟩ := gf_nn_ok h
          refine gw_getr (k := 7) (ty := 3) (ref := R_Desk) C hW o_t0 (by decide) rfl gi_Desk rfl (by decide) rfl rfl gk_357 gd_Desk_count_58 e13 ?_
          have o_q12 := hW.ref (d := 3) o_t0 e13 rfl
          obtain ⟨a16, u14, d15, h⟩ := gf_cl_ok h
          refine gw_callVi (K := R_Speeds) (As := []) (rest := []) C hW (fun _ h => Or.inr h) hl.1 gm_Speeds_howMany (gc_Speeds_howMany l F o_q12 d15 _) gk_368 gk_369 gk_370 o_q12 (by decide) rfl rfl rfl ⟨Nat.le_of_ble_eq_true rfl, Nat.le_of_ble_eq_true rfl⟩ ⟨Nat.zero_le _, Nat.zero_le _⟩ rfl rfl (Nat.le_of_ble_eq_true rfl) gd_Desk_count_61 (fun H locs hW => ?_)
          obtain rfl := Option.some.inj h
          exact gw_iret C hW hr hk gd_Desk_count_64
        · have h := gf_f c11 h
          by_cases c17 : x1 = 4
          · have h := gf_t c17 h
            refine lv_tableIn (x := x1) (off := 64) (tgt := 65) hx hb gd_Desk_count_1 (by rw [c17]; decide) (by rw [c17]; decide) (by rw [c17]; rfl) (by decide) ?_
            refine lv_aload_n hx hb gd_Desk_count_65 rfl (lv_at hl 0 rfl) ?_
            obtain ⟨q18, e19, h⟩ := gf_nn_ok h
            refine gw_getr (k := 0) (ty := 1) (ref := R_Desk) C hW o_t0 (by decide) rfl gi_Desk rfl (by decide) rfl rfl gk_371 gd_Desk_count_66 e19 ?_
            have o_q18 := hW.ref (d := 1) o_t0 e19 rfl
            obtain ⟨a22, u20, d21, h⟩ := gf_cl_ok h
            refine gw_callVi (K := R_Trains) (As := []) (rest := []) C hW (fun _ h => Or.inr h) hl.1 gm_Trains_choicesLeft (gc_Trains_choicesLeft l F o_q18 d21 _) gk_372 gk_373 gk_374 o_q18 (by decide) rfl rfl rfl ⟨Nat.le_of_ble_eq_true rfl, Nat.le_of_ble_eq_true rfl⟩ ⟨Nat.zero_le _, Nat.zero_le _⟩ rfl rfl (Nat.le_of_ble_eq_true rfl) gd_Desk_count_69 (fun H locs hW => ?_)
            obtain rfl := Option.some.inj h
            exact gw_iret C hW hr hk gd_Desk_count_72
          · have h := gf_f c17 h
            refine lv_tableOut (x := x1) (tgt := 73) hx hb gd_Desk_count_1 (gw_swo (fun k k1 k2 => by rcases (show k = 0 ∨ k = 1 ∨ k = 2 ∨ k = 3 ∨ k = 4 by omega) with rfl | rfl | rfl | rfl | rfl <;> first | exact c1 | exact c4 | exact c7 | exact c11 | exact c17)) (by decide) ?_
            refine lv_iconst (v := (-1)) hx hb gd_Desk_count_73 (by decide) ?_
            obtain rfl := Option.some.inj h
            exact gw_iret C hW hr hk gd_Desk_count_74

set_option maxRecDepth 20000 in
theorem gc_Desk_count (l : Launch) {D : va_G} {cA : Nat → ClassId} {hs : Nat → Nat} {z : gw_Sh} (F : Nat) {u : gw_St} {r0 : (Int32 × gw_St)} {t0 : Nat} {x1 : Int32} (o_t0 : gw_ok z t0 0) (h : gf_Desk_count F z u t0 x1 = some r0) (sz : Nat) : gw_Mi l gy_Desk_count gb_Desk_count 2 (some .int) gr_Desk_count [.ref (hs t0), .int x1] D cA hs z u sz r0 := by
  refine gw_enter (by decide) (Nat.le_of_ble_eq_true rfl) ?_
  intro p e s m below meth c ls hsz C hW hr hk _ hl
  subst hsz
  exact gx_Desk_count_b0 F C hr hk u t0 x1 o_t0 hW (lv_sub hl [0, 1] rfl) h
