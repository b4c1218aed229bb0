-- GearDeskModel.quotient(III)I
def gy_Model_quotient : MethodName := ⟨R_Model, "quotient", "(III)I"⟩
abbrev gb_Model_quotient : ByteArray := prog_11_method_23_code
theorem gk_460 : Cond.code gy_Model_quotient gb_Model_quotient 8 (some .int) ∈ gt_T := gt_m7 (List.mem_of_getElem? (i := 40) rfl) rfl
def gr_Model_quotient : Room := gw_rm 2 85
theorem gm_Model_quotient : gw_Mth gy_Model_quotient gb_Model_quotient 8 (some .int) 3 := ⟨gk_460, gk_377, ⟨by decide +kernel, by decide +kernel⟩, by decide +kernel⟩
theorem gd_Model_quotient_0 : decode gb_Model_quotient 0 = .ok (.aload_n 0, 1) := by decide +kernel
theorem gd_Model_quotient_1 : decode gb_Model_quotient 1 = .ok (.iconst 0, 1) := by decide +kernel
theorem gd_Model_quotient_2 : decode gb_Model_quotient 2 = .ok (.putfield 112, 3) := by decide +kernel
theorem gd_Model_quotient_5 : decode gb_Model_quotient 5 = .ok (.iload_n 1, 1) := by decide +kernel
theorem gd_Model_quotient_6 : decode gb_Model_quotient 6 = .ok (.iconst 1, 1) := by decide +kernel
theorem gd_Model_quotient_7 : decode gb_Model_quotient 7 = .ok (.if_icmp .lt 8, 3) := by decide +kernel
theorem gd_Model_quotient_10 : decode gb_Model_quotient 10 = .ok (.iload_n 2, 1) := by decide +kernel
theorem gd_Model_quotient_11 : decode gb_Model_quotient 11 = .ok (.iconst 1, 1) := by decide +kernel
theorem gd_Model_quotient_12 : decode gb_Model_quotient 12 = .ok (.if_icmp .ge 9, 3) := by decide +kernel
theorem gd_Model_quotient_15 : decode gb_Model_quotient 15 = .ok (.aload_n 0, 1) := by decide +kernel
theorem gd_Model_quotient_16 : decode gb_Model_quotient 16 = .ok (.iconst 1, 1) := by decide +kernel
theorem gd_Model_quotient_17 : decode gb_Model_quotient 17 = .ok (.invokevirtual 123, 3) := by decide +kernel
theorem gd_Model_quotient_20 : decode gb_Model_quotient 20 = .ok (.ireturn, 1) := by decide +kernel
theorem gd_Model_quotient_21 : decode gb_Model_quotient 21 = .ok (.iload_n 1, 1) := by decide +kernel
theorem gd_Model_quotient_22 : decode gb_Model_quotient 22 = .ok (.istore 4, 2) := by decide +kernel
theorem gd_Model_quotient_24 : decode gb_Model_quotient 24 = .ok (.iload_n 2, 1) := by decide +kernel
theorem gd_Model_quotient_25 : decode gb_Model_quotient 25 = .ok (.istore 5, 2) := by decide +kernel
theorem gd_Model_quotient_27 : decode gb_Model_quotient 27 = .ok (.iconst 0, 1) := by decide +kernel
theorem gd_Model_quotient_28 : decode gb_Model_quotient 28 = .ok (.istore 6, 2) := by decide +kernel
theorem gd_Model_quotient_30 : decode gb_Model_quotient 30 = .ok (.iload 6, 2) := by decide +kernel
theorem gd_Model_quotient_32 : decode gb_Model_quotient 32 = .ok (.iload_n 3, 1) := by decide +kernel
theorem gd_Model_quotient_33 : decode gb_Model_quotient 33 = .ok (.if_icmp .ge 29, 3) := by decide +kernel
theorem gd_Model_quotient_36 : decode gb_Model_quotient 36 = .ok (.iload 5, 2) := by decide +kernel
theorem gd_Model_quotient_38 : decode gb_Model_quotient 38 = .ok (.ifCond .le 24, 3) := by decide +kernel
theorem gd_Model_quotient_41 : decode gb_Model_quotient 41 = .ok (.iload 4, 2) := by decide +kernel
theorem gd_Model_quotient_43 : decode gb_Model_quotient 43 = .ok (.iload 5, 2) := by decide +kernel
theorem gd_Model_quotient_45 : decode gb_Model_quotient 45 = .ok (.irem, 1) := by decide +kernel
theorem gd_Model_quotient_46 : decode gb_Model_quotient 46 = .ok (.istore 7, 2) := by decide +kernel
theorem gd_Model_quotient_48 : decode gb_Model_quotient 48 = .ok (.iload 5, 2) := by decide +kernel
theorem gd_Model_quotient_50 : decode gb_Model_quotient 50 = .ok (.istore 4, 2) := by decide +kernel
theorem gd_Model_quotient_52 : decode gb_Model_quotient 52 = .ok (.iload 7, 2) := by decide +kernel
theorem gd_Model_quotient_54 : decode gb_Model_quotient 54 = .ok (.istore 5, 2) := by decide +kernel
theorem gd_Model_quotient_56 : decode gb_Model_quotient 56 = .ok (.iinc 6 1, 3) := by decide +kernel
theorem gd_Model_quotient_59 : decode gb_Model_quotient 59 = .ok (.goto (-29), 3) := by decide +kernel
theorem gd_Model_quotient_62 : decode gb_Model_quotient 62 = .ok (.iload_n 3, 1) := by decide +kernel
theorem gd_Model_quotient_63 : decode gb_Model_quotient 63 = .ok (.ifCond .lt 16, 3) := by decide +kernel
theorem gd_Model_quotient_66 : decode gb_Model_quotient 66 = .ok (.iload 5, 2) := by decide +kernel
theorem gd_Model_quotient_68 : decode gb_Model_quotient 68 = .ok (.ifCond .le 11, 3) := by decide +kernel
theorem gd_Model_quotient_71 : decode gb_Model_quotient 71 = .ok (.iload 4, 2) := by decide +kernel
theorem gd_Model_quotient_73 : decode gb_Model_quotient 73 = .ok (.iload 5, 2) := by decide +kernel
theorem gd_Model_quotient_75 : decode gb_Model_quotient 75 = .ok (.idiv, 1) := by decide +kernel
theorem gd_Model_quotient_76 : decode gb_Model_quotient 76 = .ok (.goto 8, 3) := by decide +kernel
theorem gd_Model_quotient_79 : decode gb_Model_quotient 79 = .ok (.aload_n 0, 1) := by decide +kernel
theorem gd_Model_quotient_80 : decode gb_Model_quotient 80 = .ok (.iconst 2, 1) := by decide +kernel
theorem gd_Model_quotient_81 : decode gb_Model_quotient 81 = .ok (.invokevirtual 123, 3) := by decide +kernel
theorem gd_Model_quotient_84 : decode gb_Model_quotient 84 = .ok (.ireturn, 1) := by decide +kernel
def gf_Model_quotient_b15 (F : Nat) (z : gw_Sh)  (u : gw_St) (t0 : Nat) : Option (Int32 × gw_St) :=
  gf_cl (gf_Model_fail F z u t0 (1 : Int32)) fun a3 u1 => some (a3, u1)
def gf_Model_quotient_b84 (F : Nat) (z : gw_Sh)  (u : gw_St) (sx0 : Int32) : Option (Int32 × gw_St) :=
  some (sx0, u)
def gf_Model_quotient_b79 (F : Nat) (z : gw_Sh)  (u : gw_St) (t0 : Nat) : Option (Int32 × gw_St) :=
  gf_cl (gf_Model_fail F z u t0 (2 : Int32)) fun a6 u4 => gf_Model_quotient_b84 F z  u4 a6
def gf_Model_quotient_b62 (F : Nat) (z : gw_Sh)  (u : gw_St) (t0 : Nat) (x3 : Int32) (x4 : Int32) (x5 : Int32) : Option (Int32 × gw_St) :=
  if x3 < 0 then (gf_Model_quotient_b79 F z  u t0) else (if x5 ≤ 0 then (gf_Model_quotient_b79 F z  u t0) else (if x5 = 0 then none else gf_Model_quotient_b84 F z  u (x4 / x5)))
def gf_Model_quotient_S30 (F : Nat) (z : gw_Sh)  (rc_30 : gw_St → Nat → Int32 → Int32 → Int32 → Int32 → Option (Int32 × gw_St)) (u : gw_St) (t0 : Nat) (x3 : Int32) (x4 : Int32) (x5 : Int32) (x6 : Int32) : Option (Int32 × gw_St) :=
  if x3 ≤ x6 then (gf_Model_quotient_b62 F z  u t0 x3 x4 x5) else (if x5 ≤ 0 then (gf_Model_quotient_b62 F z  u t0 x3 x4 x5) else (if x5 = 0 then none else gf_nm (x4 - x4 / x5 * x5) fun a13 => gf_nm (x6 + 1) fun a15 => rc_30 u t0 x3 x5 a13 a15))
def gf_Model_quotient_L30 (F : Nat) (z : gw_Sh)  : Nat → gw_St → Nat → Int32 → Int32 → Int32 → Int32 → Option (Int32 × gw_St)
  | 0 => fun _ _ _ _ _ _ => none
  | n + 1 => fun u t0 x3 x4 x5 x6 => gf_Model_quotient_S30 F z  (gf_Model_quotient_L30 F z  n) u t0 x3 x4 x5 x6
def gf_Model_quotient_b0 (F : Nat) (z : gw_Sh)  (u : gw_St) (t0 : Nat) (x1 : Int32) (x2 : Int32) (x3 : Int32) : Option (Int32 × gw_St) :=
  gf_nm (gw_wi u t0 0 (0 : Int32)) fun u17 => if x1 < (1 : Int32) then (gf_Model_quotient_b15 F z  u17 t0) else (if (1 : Int32) ≤ x2 then (gf_Model_quotient_L30 F z  F u17 t0 x3 x1 x2 0) else (gf_Model_quotient_b15 F z  u17 t0))
def gf_Model_quotient (F : Nat) (z : gw_Sh) (u : gw_St) (t0 : Nat) (x1 : Int32) (x2 : Int32) (x3 : Int32) : Option (Int32 × gw_St) := gf_Model_quotient_b0 F z  u t0 x1 x2 x3
set_option maxHeartbeats 4000000 in
set_option maxRecDepth 20000 in
theorem gx_Model_quotient_b15 {p : Program} {l : Launch} {e : Env} {s : State} {m : MethodId} {args : Array Value} {below : List Frame} {meth : Method} {c : Code} {D : va_G} {cA : Nat → ClassId} {hs : Nat → Nat} {z : gw_Sh} (F : Nat) {r0 : (Int32 × gw_St)} (C : gw_Cx p s m args c gb_Model_quotient 8 R_Model D cA) (hr : meth.sig.returnType = (some .int)) (hk : meth.locks = false) (u : gw_St) (t0 : Nat) (o_t0 : gw_ok z t0 9) {H : Heap} {locs : List Loc} {ls : Array Slot} (hW : gw_Wx D cA hs z s u H locs) (hl : lv_has ls 8 [(0, .ref (hs t0))]) (h : gf_Model_quotient_b15 F z   u t0 = some r0) : gw_Gi p l e gr_Model_quotient s m args below meth c D cA hs z r0 H locs ls 15 [] := by
  obtain ⟨hx, hb, hml, hown, hts, hK⟩ := id C
  unfold gf_Model_quotient_b15 at h
  refine lv_aload_n hx hb gd_Model_quotient_15 rfl (lv_at hl 0 rfl) ?_
  refine lv_iconst (v := 1) hx hb gd_Model_quotient_16 (by decide) ?_
  obtain ⟨a3, u1, d2, h⟩ := gf_cl_ok h
  refine gw_callVi (K := R_Model) (As := [.int (1 : Int32)]) (rest := []) C hW (fun _ h => Or.inr h) hl.1 gm_Model_fail (gc_Model_fail l F o_t0 d2 _) gk_385 gk_386 gk_387 o_t0 (by decide) rfl rfl rfl ⟨Nat.le_of_ble_eq_true rfl, Nat.le_of_ble_eq_true rfl⟩ ⟨Nat.zero_le _, Nat.zero_le _⟩ rfl rfl (Nat.le_of_ble_eq_true rfl) gd_Model_quotient_17 (fun H locs hW => ?_)
  obtain rfl := Option.some.inj h
  exact gw_iret C hW hr hk gd_Model_quotient_20

set_option maxHeartbeats 4000000 in
set_option maxRecDepth 20000 in
theorem gx_Model_quotient_b84 {p : Program} {l : Launch} {e : Env} {s : State} {m : MethodId} {args : Array Value} {below : List Frame} {meth : Method} {c : Code} {D : va_G} {cA : Nat → ClassId} {hs : Nat → Nat} {z : gw_Sh} (F : Nat) {r0 : (Int32 × gw_St)} (C : gw_Cx p s m args c gb_Model_quotient 8 R_Model D cA) (hr : meth.sig.returnType = (some .int)) (hk : meth.locks = false) (u : gw_St) (sx0 : Int32)  {H : Heap} {locs : List Loc} {ls : Array Slot} (hW : gw_Wx D cA hs z s u H locs) (hl : lv_has ls 8 []) (h : gf_Model_quotient_b84 F z   u sx0 = some r0) : gw_Gi p l e gr_Model_quotient s m args below meth c D cA hs z r0 H locs ls 84 [.int sx0] := by
  obtain ⟨hx, hb, hml, hown, hts, hK⟩ := id C
  unfold gf_Model_quotient_b84 at h
  obtain rfl := Option.some.inj h
  exact gw_iret C hW hr hk gd_Model_quotient_84

set_option maxHeartbeats 4000000 in
set_option maxRecDepth 20000 in
theorem gx_Model_quotient_b79 {p : Program} {l : Launch} {e : Env} {s : State} {m : MethodId} {args : Array Value} {below : List Frame} {meth : Method} {c : Code} {D : va_G} {cA : Nat → ClassId} {hs : Nat → Nat} {z : gw_Sh} (F : Nat) {r0 : (Int32 × gw_St)} (C : gw_Cx p s m args c gb_Model_quotient 8 R_Model D cA) (hr : meth.sig.returnType = (some .int)) (hk : meth.locks = false) (u : gw_St) (t0 : Nat) (o_t0 : gw_ok z t0 9) {H : Heap} {locs : List Loc} {ls : Array Slot} (hW : gw_Wx D cA hs z s u H locs) (hl : lv_has ls 8 [(0, .ref (hs t0))]) (h : gf_Model_quotient_b79 F z   u t0 = some r0) : gw_Gi p l e gr_Model_quotient s m args below meth c D cA hs z r0 H locs ls 79 [] := by
  obtain ⟨hx, hb, hml, hown, hts, hK⟩ := id C
  unfold gf_Model_quotient_b79 at h
  refine lv_aload_n hx hb gd_Model_quotient_79 rfl (lv_at hl 0 rfl) ?_
  refine lv_iconst (v := 2) hx hb gd_Model_quotient_80 (by decide) ?_
  obtain ⟨a6, u4, d5, h⟩ := gf_cl_ok h
  refine gw_callVi (K := R_Model) (As := [.int (2 : Int32)]) (rest := []) C hW (fun _ h => Or.inr h) hl.1 gm_Model_fail (gc_Model_fail l F o_t0 d5 _) gk_385 gk_386 gk_387 o_t0 (by decide) rfl rfl rfl ⟨Nat.le_of_ble_eq_true rfl, Nat.le_of_ble_eq_true rfl⟩ ⟨Nat.zero_le _, Nat.zero_le _⟩ rfl rfl (Nat.le_of_ble_eq_true rfl) gd_Model_quotient_81 (fun H locs hW => ?_)
  exact gx_Model_quotient_b84 F C hr hk  u4 a6  hW (lv_sub hl [] rfl) h

set_option maxHeartbeats 4000000 in
set_option maxRecDepth 20000 in
theorem gx_Model_quotient_b62 {p : Program} {l : Launch} {e : Env} {s : State} {m : MethodId} {args : Array Value} {below : List Frame} {meth : Method} {c : Code} {D : va_G} {cA : Nat → ClassId} {hs : Nat → Nat} {z : gw_Sh} (F : Nat) {r0 : (Int32 × gw_St)} (C : gw_Cx p s m args c gb_Model_quotient 8 R_Model D cA) (hr : meth.sig.returnType = (some .int)) (hk : meth.locks = false) (u : gw_St) (t0 : Nat) (x3 : Int32) (x4 : Int32) (x5 : Int32) (o_t0 : gw_ok z t0 9) {H : Heap} {locs : List Loc} {ls : Array Slot} (hW : gw_Wx D cA hs z s u H locs) (hl : lv_has ls 8 [(0, .ref (hs t0)), (3, .int x3), (4, .int x4), (5, .int x5)]) (h : gf_Model_quotient_b62 F z   u t0 x3 x4 x5 = some r0) : gw_Gi p l e gr_Model_quotient s m args below meth c D cA hs z r0 H locs ls 62 [] := by
  obtain ⟨hx, hb, hml, hown, hts, hK⟩ := id C
  unfold gf_Model_quotient_b62 at h
  refine lv_iload_n hx hb gd_Model_quotient_62 rfl (lv_at hl 1 rfl) ?_
  refine lv_if_lt (tgt := 79) hx hb gd_Model_quotient_63 (by decide) (fun c7 => ?_) (fun c7 => ?_)
  · have h := gf_t c7 h
    exact gx_Model_quotient_b79 F C hr hk  u t0 o_t0 hW (lv_sub hl [0] rfl) h
  · have h := gf_f c7 h
    refine lv_iload hx hb gd_Model_quotient_66 (lv_at hl 3 rfl) ?_
    refine lv_if_le (tgt := 79) hx hb gd_Model_quotient_68 (by decide) (fun c8 => ?_) (fun c8 => ?_)
    · have h := gf_t c8 h
      exact gx_Model_quotient_b79 F C hr hk  u t0 o_t0 hW (lv_sub hl [0] rfl) h
    · have h := gf_f c8 h
      refine lv_iload hx hb gd_Model_quotient_71 (lv_at hl 2 rfl) ?_
      refine lv_iload hx hb gd_Model_quotient_73 (lv_at hl 3 rfl) ?_
      obtain ⟨g9, h⟩ := gf_if_ok h
      refine lv_idiv hx hb gd_Model_quotient_75 g9 ?_
      refine lv_goto (tgt := 84) hx hb gd_Model_quotient_76 (by decide) ?_
      exact gx_Model_quotient_b84 F C hr hk  u (x4 / x5)  hW (lv_sub hl [] rfl) h

set_option maxHeartbeats 4000000 in
set_option maxRecDepth 20000 in
theorem gx_Model_quotient_S30 {p : Program} {l : Launch} {e : Env} {s : State} {m : MethodId} {args : Array Value} {below : List Frame} {meth : Method} {c : Code} {D : va_G} {cA : Nat → ClassId} {hs : Nat → Nat} {z : gw_Sh} (F : Nat) {r0 : (Int32 × gw_St)} (C : gw_Cx p s m args c gb_Model_quotient 8 R_Model D cA) (hr : meth.sig.returnType = (some .int)) (hk : meth.locks = false) {rc_30 : gw_St → Nat → Int32 → Int32 → Int32 → Int32 → Option (Int32 × gw_St)} (k_30 : ∀ (u : gw_St) (t0 : Nat) (x3 : Int32) (x4 : Int32) (x5 : Int32) (x6 : Int32) (H : Heap) (locs : List Loc) (ls : Array Slot), gw_ok z t0 9 → gw_Wx D cA hs z s u H locs → lv_has ls 8 [(0, .ref (hs t0)), (3, .int x3), (4, .int x4), (5, .int x5), (6, .int x6)] → rc_30 u t0 x3 x4 x5 x6 = some r0 → gw_Gi p l e gr_Model_quotient s m args below meth c D cA hs z r0 H locs ls 30 []) (u : gw_St) (t0 : Nat) (x3 : Int32) (x4 : Int32) (x5 : Int32) (x6 : Int32) (o_t0 : gw_ok z t0 9) {H : Heap} {locs : List Loc} {ls : Array Slot} (hW : gw_Wx D cA hs z s u H locs) (hl : lv_has ls 8 [(0, .ref (hs t0)), (3, .int x3), (4, .int x4), (5, .int x5), (6, .int x6)]) (h : gf_Model_quotient_S30 F z  rc_30 u t0 x3 x4 x5 x6 = some r0) : gw_Gi p l e gr_Model_quotient s m args below meth c D cA hs z r0 H locs ls 30 [] := by
  obtain ⟨hx, hb, hml, hown, hts, hK⟩ := id C
  unfold gf_Model_quotient_S30 at h
  refine lv_iload hx hb gd_Model_quotient_30 (lv_at hl 4 rfl) ?_
  refine lv_iload_n hx hb gd_Model_quotient_32 rfl (lv_at hl 1 rfl) ?_
  refine lv_icmp_ge (tgt := 62) hx hb gd_Model_quotient_33 (by decide) (fun c10 => ?_) (fun c10 => ?_)
  · have h := gf_t c10 h
    exact gx_Model_quotient_b62 F C hr hk  u t0 x3 x4 x5 o_t0 hW (lv_sub hl [0, 1, 2, 3] rfl) h
  · have h := gf_f c10 h
    refine lv_iload hx hb gd_Model_quotient_36 (lv_at hl 3 rfl) ?_
    refine lv_if_le (tgt := 62) hx hb gd_Model_quotient_38 (by decide) (fun c11 => ?_) (fun c11 => ?_)
    · have h := gf_t c11 h
      exact gx_Model_quotient_b62 F C hr hk  u t0 x3 x4 x5 o_t0 hW (lv_sub hl [0, 1, 2, 3] rfl) h
    · have h := gf_f c11 h
      refine lv_iload hx hb gd_Model_quotient_41 (lv_at hl 2 rfl) ?_
      refine lv_iload hx hb gd_Model_quotient_43 (lv_at hl 3 rfl) ?_
      obtain ⟨g12, h⟩ := gf_if_ok h
      refine lv_irem hx hb gd_Model_quotient_45 g12 ?_
      refine lv_topi (fun a13 e14 => ?_)
      have h := gf_nm_ok e14 h
      refine lv_istore (lv' := [(7, .int a13), (0, .ref (hs t0)), (3, .int x3), (4, .int x4), (5, .int x5), (6, .int x6)]) hx hb gd_Model_quotient_46 hl (by decide) rfl (fun ls hl => ?_)
      refine lv_iload hx hb gd_Model_quotient_48 (lv_at hl 4 rfl) ?_
      refine lv_istore (lv' := [(4, .int x5), (7, .int a13), (0, .ref (hs t0)), (3, .int x3), (5, .int x5), (6, .int x6)]) hx hb gd_Model_quotient_50 hl (by decide) rfl (fun ls hl => ?_)
      refine lv_iload hx hb gd_Model_quotient_52 (lv_at hl 1 rfl) ?_
      refine lv_istore (lv' := [(5, .int a13), (4, .int x5), (7, .int a13), (0, .ref (hs t0)), (3, .int x3), (6, .int x6)]) hx hb gd_Model_quotient_54 hl (by decide) rfl (fun ls hl => ?_)
      obtain ⟨a15, e16⟩ : ∃ y : Int32, y = x6 + 1 := ⟨_, rfl⟩
      have h := gf_nm_ok e16 h
      refine lv_iinc (v := a15) (lv' := [(6, .int a15), (5, .int a13), (4, .int x5), (7, .int a13), (0, .ref (hs t0)), (3, .int x3)]) hx hb gd_Model_quotient_56 hl (k := 5) rfl (by rw [e16]; rfl) (by decide) rfl (fun ls hl => ?_)
      refine lv_goto (tgt := 30) hx hb gd_Model_quotient_59 (by decide) ?_
      exact k_30 u t0 x3 x5 a13 a15 _ _ _ o_t0 hW (lv_sub hl [4, 5, 2, 1, 0] rfl) h
set_option maxHeartbeats 4000000 in
set_option maxRecDepth 20000 in
theorem gx_Model_quotient_L30 {p : Program} {l : Launch} {e : Env} {s : State} {m : MethodId} {args : Array Value} {below : List Frame} {meth : Method} {c : Code} {D : va_G} {cA : Nat → ClassId} {hs : Nat → Nat} {z : gw_Sh} (F : Nat) {r0 : (Int32 × gw_St)} (C : gw_Cx p s m args c gb_Model_quotient 8 R_Model D cA) (hr : meth.sig.returnType = (some .int)) (hk : meth.locks = false) : ∀ (n : Nat), ∀ (u : gw_St) (t0 : Nat) (x3 : Int32) (x4 : Int32) (x5 : Int32) (x6 : Int32) (H : Heap) (locs : List Loc) (ls : Array Slot), gw_ok z t0 9 → gw_Wx D cA hs z s u H locs → lv_has ls 8 [(0, .ref (hs t0)), (3, .int x3), (4, .int x4), (5, .int x5), (6, .int x6)] → gf_Model_quotient_L30 F z  n u t0 x3 x4 x5 x6 = some r0 → gw_Gi p l e gr_Model_quotient s m args below meth c D cA hs z r0 H locs ls 30 [] := by
  intro n
  induction n with
  | zero =>
    intro u t0 x3 x4 x5 x6 H locs ls o_t0 hW hl h
    cases h
  | succ n ih =>
    intro u t0 x3 x4 x5 x6 H locs ls o_t0 hW hl h
    exact gx_Model_quotient_S30 F C hr hk  ih u t0 x3 x4 x5 x6 o_t0 hW hl h

set_option maxHeartbeats 4000000 in
set_option maxRecDepth 20000 in
theorem gx_Model_quotient_b0 {p : Program} {l : Launch} {e : Env} {s : State} {m : MethodId} {args : Array Value} {below : List Frame} {meth : Method} {c : Code} {D : va_G} {cA : Nat → ClassId} {hs : Nat → Nat} {z : gw_Sh} (F : Nat) {r0 : (Int32 × gw_St)} (C : gw_Cx p s m args c gb_Model_quotient 8 R_Model D cA) (hr : meth.sig.returnType = (some .int)) (hk : meth.locks = false) (u : gw_St) (t0 : Nat) (x1 : Int32) (x2 : Int32) (x3 : Int32) (o_t0 : gw_ok z t0 9) {H : Heap} {locs : List Loc} {ls : Array Slot} (hW : gw_Wx D cA hs z s u H locs) (hl : lv_has ls 8 [(0, .ref (hs t0)), (1, .int x1), (2, .int x2), (3, .int x3)]) (h : gf_Model_quotient_b0 F z   u t0 x1 x2 x3 = some r0) : gw_Gi p l e gr_Model_quotient s m args below meth c D cA hs z r0 H locs ls 0 [] := by
  obtain ⟨hx, hb, hml, hown, hts, hK⟩ := id C
  unfold gf_Model_quotient_b0 at h
  refine lv_aload_n hx hb gd_Model_quotient_0 rfl (lv_at hl 0 rfl) ?_
  refine lv_iconst (v := 0) hx hb gd_Model_quotient_1 (by decide) ?_
  refine gw_puti (k := 0) (ref := R_Model) (fty := .int) C hW o_t0 (by decide) rfl gi_Model rfl (by decide) rfl rfl gk_376 tf_Model tf_Model_ok nm_Model rfl rfl rfl rfl gd_Model_quotient_2 (fun u17 H locs e18 hW => ?_)
  have h := gf_nm_ok e18 h
  refine lv_iload_n hx hb gd_Model_quotient_5 rfl (lv_at hl 1 rfl) ?_
  refine lv_iconst (v := 1) hx hb gd_Model_quotient_6 (by decide) ?_
  refine lv_icmp_lt (tgt := 15) hx hb gd_Model_quotient_7 (by decide) (fun c19 => ?_) (fun c19 => ?_)
  · have h := gf_t c19 h
    exact gx_Model_quotient_b15 F C hr hk  u17 t0 o_t0 hW (lv_sub hl [0] rfl) h
  · have h := gf_f c19 h
    refine lv_iload_n hx hb gd_Model_quotient_10 rfl (lv_at hl 2 rfl) ?_
    refine lv_iconst (v := 1) hx hb gd_Model_quotient_11 (by decide) ?_
    refine lv_icmp_ge (tgt := 21) hx hb gd_Model_quotient_12 (by decide) (fun c20 => ?_) (fun c20 => ?_)
    · have h := gf_t c20 h
      refine lv_iload_n hx hb gd_Model_quotient_21 rfl (lv_at hl 1 rfl) ?_
      refine lv_istore (lv' := [(4, .int x1), (0, .ref (hs t0)), (1, .int x1), (2, .int x2), (3, .int x3)]) hx hb gd_Model_quotient_22 hl (by decide) rfl (fun ls hl => ?_)
      refine lv_iload_n hx hb gd_Model_quotient_24 rfl (lv_at hl 3 rfl) ?_
      refine lv_istore (lv' := [(5, .int x2), (4, .int x1), (0, .ref (hs t0)), (1, .int x1), (2, .int x2), (3, .int x3)]) hx hb gd_Model_quotient_25 hl (by decide) rfl (fun ls hl => ?_)
      refine lv_iconst (v := 0) hx hb gd_Model_quotient_27 (by decide) ?_
      refine lv_istore (lv' := [(6, .int 0), (5, .int x2), (4, .int x1), (0, .ref (hs t0)), (1, .int x1), (2, .int x2), (3, .int x3)]) hx hb gd_Model_quotient_28 hl (by decide) rfl (fun ls hl => ?_)
      exact gx_Model_quotient_L30 F C hr hk  F u17 t0 x3 x1 x2 0 _ _ _ o_t0 hW (lv_sub hl [3, 6, 2, 1, 0] rfl) h
    · have h := gf_f c20 h
      exact gx_Model_quotient_b15 F C hr hk  u17 t0 o_t0 hW (lv_sub hl [0] rfl) h

set_option maxRecDepth 20000 in
theorem gc_Model_quotient (l : Launch) {D : va_G} {cA : Nat → ClassId} {hs : Nat → Nat} {z : gw_Sh} (F : Nat) {u : gw_St} {r0 : (Int32 × gw_St)} {t0 : Nat} {x1 : Int32} {x2 : Int32} {x3 : Int32} (o_t0 : gw_ok z t0 9) (h : gf_Model_quotient F z u t0 x1 x2 x3 = some r0) (sz : Nat) : gw_Mi l gy_Model_quotient gb_Model_quotient 8 (some .int) gr_Model_quotient [.ref (hs t0), .int x1, .int x2, .int x3] D cA hs z u sz r0 := by
  refine gw_enter (by decide) (Nat.le_of_ble_eq_true rfl) ?_
  intro p e s m below meth c ls hsz C hW hr hk _ hl
  subst hsz
  exact gx_Model_quotient_b0 F C hr hk u t0 x1 x2 x3 o_t0 hW (lv_sub hl [0, 1, 2, 3] rfl) h
-- GearDeskModel.gear(I)I
theorem gk_461 : Cond.fieldLink R_Model 217 R_Model "gears" "I" ∈ gt_T := gt_m6 (List.mem_of_getElem? (i := 70) rfl) rfl
theorem gk_462 : Cond.fieldLink R_Model 24 R_Model "teeth" "[I" ∈ gt_T := gt_m6 (List.mem_of_getElem? (i := 73) rfl) rfl
theorem gk_463 : Cond.fieldLink R_Model 45 R_Model "hasSpeed" "[Z" ∈ gt_T := gt_m6 (List.mem_of_getElem? (i := 80) rfl) rfl
def gy_Model_gear : MethodName := ⟨R_Model, "gear", "(I)I"⟩
abbrev gb_Model_gear : ByteArray := prog_11_method_24_code
theorem gk_464 : Cond.code gy_Model_gear gb_Model_gear 2 (some .int) ∈ gt_T := gt_m7 (List.mem_of_getElem? (i := 44) rfl) rfl
def gr_Model_gear : Room := gw_rm 2 86
theorem gm_Model_gear : gw_Mth gy_Model_gear gb_Model_gear 2 (some .int) 1 := ⟨gk_464, gk_377, ⟨by decide +kernel, by decide +kernel⟩, by decide +kernel⟩
theorem gd_Model_gear_0 : decode gb_Model_gear 0 = .ok (.aload_n 0, 1) := by decide +kernel
theorem gd_Model_gear_1 : decode gb_Model_gear 1 = .ok (.iconst 0, 1) := by decide +kernel
theorem gd_Model_gear_2 : decode gb_Model_gear 2 = .ok (.putfield 112, 3) := by decide +kernel
theorem gd_Model_gear_5 : decode gb_Model_gear 5 = .ok (.iload_n 1, 1) := by decide +kernel
theorem gd_Model_gear_6 : decode gb_Model_gear 6 = .ok (.iconst 4, 1) := by decide +kernel
theorem gd_Model_gear_7 : decode gb_Model_gear 7 = .ok (.sipush 1000, 3) := by decide +kernel
theorem gd_Model_gear_10 : decode gb_Model_gear 10 = .ok (.invokestatic 119, 3) := by decide +kernel
theorem gd_Model_gear_13 : decode gb_Model_gear 13 = .ok (.ifCond .ne 9, 3) := by decide +kernel
theorem gd_Model_gear_16 : decode gb_Model_gear 16 = .ok (.aload_n 0, 1) := by decide +kernel
theorem gd_Model_gear_17 : decode gb_Model_gear 17 = .ok (.iconst 1, 1) := by decide +kernel
theorem gd_Model_gear_18 : decode gb_Model_gear 18 = .ok (.invokevirtual 123, 3) := by decide +kernel
theorem gd_Model_gear_21 : decode gb_Model_gear 21 = .ok (.ireturn, 1) := by decide +kernel
theorem gd_Model_gear_22 : decode gb_Model_gear 22 = .ok (.aload_n 0, 1) := by decide +kernel
theorem gd_Model_gear_23 : decode gb_Model_gear 23 = .ok (.getfield 217, 3) := by decide +kernel
theorem gd_Model_gear_26 : decode gb_Model_gear 26 = .ok (.bipush 60, 2) := by decide +kernel
theorem gd_Model_gear_28 : decode gb_Model_gear 28 = .ok (.if_icmp .ne 9, 3) := by decide +kernel
theorem gd_Model_gear_31 : decode gb_Model_gear 31 = .ok (.aload_n 0, 1) := by decide +kernel
theorem gd_Model_gear_32 : decode gb_Model_gear 32 = .ok (.iconst 2, 1) := by decide +kernel
theorem gd_Model_gear_33 : decode gb_Model_gear 33 = .ok (.invokevirtual 123, 3) := by decide +kernel
theorem gd_Model_gear_36 : decode gb_Model_gear 36 = .ok (.ireturn, 1) := by decide +kernel
theorem gd_Model_gear_37 : decode gb_Model_gear 37 = .ok (.aload_n 0, 1) := by decide +kernel
theorem gd_Model_gear_38 : decode gb_Model_gear 38 = .ok (.getfield 24, 3) := by decide +kernel
theorem gd_Model_gear_41 : decode gb_Model_gear 41 = .ok (.aload_n 0, 1) := by decide +kernel
theorem gd_Model_gear_42 : decode gb_Model_gear 42 = .ok (.getfield 217, 3) := by decide +kernel
theorem gd_Model_gear_45 : decode gb_Model_gear 45 = .ok (.iload_n 1, 1) := by decide +kernel
theorem gd_Model_gear_46 : decode gb_Model_gear 46 = .ok (.iastore, 1) := by decide +kernel
theorem gd_Model_gear_47 : decode gb_Model_gear 47 = .ok (.aload_n 0, 1) := by decide +kernel
theorem gd_Model_gear_48 : decode gb_Model_gear 48 = .ok (.getfield 45, 3) := by decide +kernel
theorem gd_Model_gear_51 : decode gb_Model_gear 51 = .ok (.aload_n 0, 1) := by decide +kernel
theorem gd_Model_gear_52 : decode gb_Model_gear 52 = .ok (.getfield 217, 3) := by decide +kernel
theorem gd_Model_gear_55 : decode gb_Model_gear 55 = .ok (.iconst 0, 1) := by decide +kernel
theorem gd_Model_gear_56 : decode gb_Model_gear 56 = .ok (.bastore, 1) := by decide +kernel
theorem gd_Model_gear_57 : decode gb_Model_gear 57 = .ok (.aload_n 0, 1) := by decide +kernel
theorem gd_Model_gear_58 : decode gb_Model_gear 58 = .ok (.dup, 1) := by decide +kernel
theorem gd_Model_gear_59 : decode gb_Model_gear 59 = .ok (.getfield 217, 3) := by decide +kernel
theorem gd_Model_gear_62 : decode gb_Model_gear 62 = .ok (.iconst 1, 1) := by decide +kernel
theorem gd_Model_gear_63 : decode gb_Model_gear 63 = .ok (.iadd, 1) := by decide +kernel
theorem gd_Model_gear_64 : decode gb_Model_gear 64 = .ok (.putfield 217, 3) := by decide +kernel
theorem gd_Model_gear_67 : decode gb_Model_gear 67 = .ok (.aload_n 0, 1) := by decide +kernel
theorem gd_Model_gear_68 : decode gb_Model_gear 68 = .ok (.getfield 217, 3) := by decide +kernel
theorem gd_Model_gear_71 : decode gb_Model_gear 71 = .ok (.iconst 1, 1) := by decide +kernel
theorem gd_Model_gear_72 : decode gb_Model_gear 72 = .ok (.isub, 1) := by decide +kernel
theorem gd_Model_gear_73 : decode gb_Model_gear 73 = .ok (.ireturn, 1) := by decide +kernel
def gf_Model_gear_b0 (F : Nat) (z : gw_Sh)  (u : gw_St) (t0 : Nat) (x1 : Int32) : Option (Int32 × gw_St) :=
  gf_nm (gw_wi u t0 0 (0 : Int32)) fun u1 => gf_cl (gf_Model_within F z u1 x1 (4 : Int32) (1000 : Int32)) fun a5 u3 => if a5 = 0 then (gf_cl (gf_Model_fail F z u3 t0 (1 : Int32)) fun a25 u23 => some (a25, u23)) else (if (u3.1 t0 18) = (60 : Int32) then (gf_cl (gf_Model_fail F z u3 t0 (2 : Int32)) fun a22 u20 => some (a22, u20)) else (gf_nn (u3.2.2 t0 21) fun q8 => if ((u3.1 t0 18) < 0 ∨ z.2.2 q8 ≤ ((u3.1 t0 18)).toNatClampNeg) then none else gf_nm (gw_wi u3 q8 ((u3.1 t0 18)).toNatClampNeg x1) fun u11 => gf_nn (u11.2.2 t0 28) fun q13 => if ((u11.1 t0 18) < 0 ∨ z.2.2 q13 ≤ ((u11.1 t0 18)).toNatClampNeg) then none else gf_nm (gw_wi u11 q13 ((u11.1 t0 18)).toNatClampNeg (vp_nar .boolean (0 : Int32))) fun u16 => gf_nm (gw_wi u16 t0 18 ((u16.1 t0 18) + (1 : Int32))) fun u18 => some (((u18.1 t0 18) - (1 : Int32)), u18)))
def gf_Model_gear (F : Nat) (z : gw_Sh) (u : gw_St) (t0 : Nat) (x1 : Int32) : Option (Int32 × gw_St) := gf_Model_gear_b0 F z  u t0 x1
set_option maxHeartbeats 4000000 in
set_option maxRecDepth 20000 in
theorem gx_Model_gear_b0 {p : Program} {l : Launch} {e : Env} {s : State} {m : MethodId} {args : Array Value} {below : List Frame} {meth : Method} {c : Code} {D : va_G} {cA : Nat → ClassId} {hs : Nat → Nat} {z : gw_Sh} (F : Nat) {r0 : (Int32 × gw_St)} (C : gw_Cx p s m args c gb_Model_gear 2 R_Model D cA) (hr : meth.sig.returnType = (some .int)) (hk : meth.locks = false) (u : gw_St) (t0 : Nat) (x1 : Int32) (o_t0 : gw_ok z t0 9) {H : Heap} {locs : List Loc} {ls : Array Slot} (hW : gw_Wx D cA hs z s u H locs) (hl : lv_has ls 2 [(0, .ref (hs t0)), (1, .int x1)]) (h : gf_Model_gear_b0 F z   u t0 x1 = some r0) : gw_Gi p l e gr_Model_gear s m args below meth c D cA hs z r0 H locs ls 0 [] := by
  obtain ⟨hx, hb, hml, hown, hts, hK⟩ := id C
  unfold gf_Model_gear_b0 at h
  refine lv_aload_n hx hb gd_Model_gear_0 rfl (lv_at hl 0 rfl) ?_
  refine lv_iconst (v := 0) hx hb gd_Model_gear_1 (by decide) ?_
  refine gw_puti (k := 0) (ref := R_Model) (fty := .int) C hW o_t0 (by decide) rfl gi_Model rfl (by decide) rfl rfl gk_376 tf_Model tf_Model_ok nm_Model rfl rfl rfl rfl gd_Model_gear_2 (fun u1 H locs e2 hW => ?_)
  have h := gf_nm_ok e2 h
  refine lv_iload_n hx hb gd_Model_gear_5 rfl (lv_at hl 1 rfl) ?_
  refine lv_iconst (v := 4) hx hb gd_Model_gear_6 (by decide) ?_
  refine lv_sipush (v := 1000) hx hb gd_Model_gear_7 (by decide) ?_
  obtain ⟨a5, u3, d4, h⟩ := gf_cl_ok h
  refine gw_callSi (As := [.int x1, .int (4 : Int32), .int (1000 : Int32)]) (rest := []) C hW (fun _ h => Or.inr h) hl.1 gm_Model_within (gc_Model_within l F  d4 _) gk_398 gk_399 rfl rfl ⟨Nat.le_of_ble_eq_true rfl, Nat.le_of_ble_eq_true rfl⟩ ⟨Nat.zero_le _, Nat.zero_le _⟩ rfl rfl (Nat.le_of_ble_eq_true rfl) gd_Model_gear_10 (fun H locs hW => ?_)
  refine lv_if_ne (tgt := 22) hx hb gd_Model_gear_13 (by decide) (fun c6 => ?_) (fun c6 => ?_)
  · have h := gf_f c6 h
    refine lv_aload_n hx hb gd_Model_gear_22 rfl (lv_at hl 0 rfl) ?_
    refine gw_geti (k := 18) (ref := R_Model) C hW o_t0 (by decide) rfl gi_Model rfl (by decide) rfl rfl gk_461 gd_Model_gear_23 ?_
    refine lv_bipush (v := 60) hx hb gd_Model_gear_26 (by decide) ?_
    refine lv_icmp_ne (tgt := 37) hx hb gd_Model_gear_28 (by decide) (fun c7 => ?_) (fun c7 => ?_)
    · have h := gf_f c7 h
      refine lv_aload_n hx hb gd_Model_gear_37 rfl (lv_at hl 0 rfl) ?_
      obtain ⟨q8, e9, h⟩ := gf_nn_ok h
      refine gw_getr (k := 21) (ty := 10) (ref := R_Model) C hW o_t0 (by decide) rfl gi_Model rfl (by decide) rfl rfl gk_462 gd_Model_gear_38 e9 ?_
      have o_q8 := hW.ref (d := 10) o_t0 e9 rfl
      refine lv_aload_n hx hb gd_Model_gear_41 rfl (lv_at hl 0 rfl) ?_
      refine gw_geti (k := 18) (ref := R_Model) C hW o_t0 (by decide) rfl gi_Model rfl (by decide) rfl rfl gk_461 gd_Model_gear_42 ?_
      refine lv_iload_n hx hb gd_Model_gear_45 rfl (lv_at hl 1 rfl) ?_
      obtain ⟨g10, h⟩ := gf_if_ok h
      refine gw_iast C hW o_q8 g10 gd_Model_gear_46 (fun u11 H locs e12 hW => ?_)
      have h := gf_nm_ok e12 h
      refine lv_aload_n hx hb gd_Model_gear_47 rfl (lv_at hl 0 rfl) ?_
      obtain ⟨q13, e14, h⟩ := gf_nn_ok h
      refine gw_getr (k := 28) (ty := 12) (ref := R_Model) C hW o_t0 (by decide) rfl gi_Model rfl (by decide) rfl rfl gk_463 gd_Model_gear_48 e14 ?_
      have o_q13 := hW.ref (d := 12) o_t0 e14 rfl
      refine lv_aload_n hx hb gd_Model_gear_51 rfl (lv_at hl 0 rfl) ?_
      refine gw_geti (k := 18) (ref := R_Model) C hW o_t0 (by decide) rfl gi_Model rfl (by decide) rfl rfl gk_461 gd_Model_gear_52 ?_
      refine lv_iconst (v := 0) hx hb gd_Model_gear_55 (by decide) ?_
      obtain ⟨g15, h⟩ := gf_if_ok h
      refine gw_zast C hW o_q13 g15 gd_Model_gear_56 (fun u16 H locs e17 hW => ?_)
      have h := gf_nm_ok e17 h
      refine lv_aload_n hx hb gd_Model_gear_57 rfl (lv_at hl 0 rfl) ?_
      refine lv_dup hx hb gd_Model_gear_58 rfl ?_
      refine gw_geti (k := 18) (ref := R_Model) C hW o_t0 (by decide) rfl gi_Model rfl (by decide) rfl rfl gk_461 gd_Model_gear_59 ?_
      refine lv_iconst (v := 1) hx hb gd_Model_gear_62 (by decide) ?_
      refine lv_iadd hx hb gd_Model_gear_63 ?_
      refine gw_puti (k := 18) (ref := R_Model) (fty := .int) C hW o_t0 (by decide) rfl gi_Model rfl (by decide) rfl rfl gk_461 tf_Model tf_Model_ok nm_Model rfl rfl rfl rfl gd_Model_gear_64 (fun u18 H locs e19 hW => ?_)
      have h := gf_nm_ok e19 h
      refine lv_aload_n hx hb gd_Model_gear_67 rfl (lv_at hl 0 rfl) ?_
      refine gw_geti (k := 18) (ref := R_Model) C hW o_t0 (by decide) rfl gi_Model rfl (by decide) rfl rfl gk_461 gd_Model_gear_68 ?_
      refine lv_iconst (v := 1) hx hb gd_Model_gear_71 (by decide) ?_
      refine lv_isub hx hb gd_Model_gear_72 ?_
      obtain rfl := Option.some.inj h
      exact gw_iret C hW hr hk gd_Model_gear_73
    · have h := gf_t c7 h
      refine lv_aload_n hx hb gd_Model_gear_31 rfl (lv_at hl 0 rfl) ?_
      refine lv_iconst (v := 2) hx hb gd_Model_gear_32 (by decide) ?_
      obtain ⟨a22, u20, d21, h⟩ := gf_cl_ok h
      refine gw_callVi (K := R_Model) (As := [.int (2 : Int32)]) (rest := []) C hW (fun _ h => Or.inr h) hl.1 gm_Model_fail (gc_Model_fail l F o_t0 d21 _) gk_385 gk_386 gk_387 o_t0 (by decide) rfl rfl rfl ⟨Nat.le_of_ble_eq_true rfl, Nat.le_of_ble_eq_true rfl⟩ ⟨Nat.zero_le _, Nat.zero_le _⟩ rfl rfl (Nat.le_of_ble_eq_true rfl) gd_Model_gear_33 (fun H locs hW => ?_)
      obtain rfl := Option.some.inj h
      exact gw_iret C hW hr hk gd_Model_gear_36
  · have h := gf_t c6 h
    refine lv_aload_n hx hb gd_Model_gear_16 rfl (lv_at hl 0 rfl) ?_
    refine lv_iconst (v := 1) hx hb gd_Model_gear_17 (by decide) ?_
    obtain ⟨a25, u23, d24, h⟩ := gf_cl_ok h
    refine gw_callVi (K := R_Model) (As := [.int (1 : Int32)]) (rest := []) C hW (fun _ h => Or.inr h) hl.1 gm_Model_fail (gc_Model_fail l F o_t0 d24 _) gk_385 gk_386 gk_387 o_t0 (by decide) rfl rfl rfl ⟨Nat.le_of_ble_eq_true rfl, Nat.le_of_ble_eq_true rfl⟩ ⟨Nat.zero_le _, Nat.zero_le _⟩ rfl rfl (Nat.le_of_ble_eq_true rfl) gd_Model_gear_18 (fun H locs hW => ?_)
    obtain rfl := Option.some.inj h
    exact gw_iret C hW hr hk gd_Model_gear_21

set_option maxRecDepth 20000 in
theorem gc_Model_gear (l : Launch) {D : va_G} {cA : Nat → ClassId} {hs : Nat → Nat} {z : gw_Sh} (F : Nat) {u : gw_St} {r0 : (Int32 × gw_St)} {t0 : Nat} {x1 : Int32} (o_t0 : gw_ok z t0 9) (h : gf_Model_gear F z u t0 x1 = some r0) (sz : Nat) : gw_Mi l gy_Model_gear gb_Model_gear 2 (some .int) gr_Model_gear [.ref (hs t0), .int x1] D cA hs z u sz r0 := by
  refine gw_enter (by decide) (Nat.le_of_ble_eq_true rfl) ?_
  intro p e s m below meth c ls hsz C hW hr hk _ hl
  subst hsz
  exact gx_Model_gear_b0 F C hr hk u t0 x1 o_t0 hW (lv_sub hl [0, 1] rfl) h
-- GearDeskModel.isGear(I)Z
def gy_Model_isGear : MethodName := ⟨R_Model, "isGear", "(I)Z"⟩
abbrev gb_Model_isGear : ByteArray := prog_11_method_25_code
theorem gk_465 : Cond.code gy_Model_isGear gb_Model_isGear 2 (some .boolean) ∈ gt_T := gt_m7 (List.mem_of_getElem? (i := 56) rfl) rfl
def gr_Model_isGear : Room := gw_rm 2 86
theorem gm_Model_isGear : gw_Mth gy_Model_isGear gb_Model_isGear 2 (some .boolean) 1 := ⟨gk_465, gk_377, ⟨by decide +kernel, by decide +kernel⟩, by decide +kernel⟩
theorem gd_Model_isGear_0 : decode gb_Model_isGear 0 = .ok (.iload_n 1, 1) := by decide +kernel
theorem gd_Model_isGear_1 : decode gb_Model_isGear 1 = .ok (.iconst 0, 1) := by decide +kernel
theorem gd_Model_isGear_2 : decode gb_Model_isGear 2 = .ok (.aload_n 0, 1) := by decide +kernel
theorem gd_Model_isGear_3 : decode gb_Model_isGear 3 = .ok (.getfield 217, 3) := by decide +kernel
theorem gd_Model_isGear_6 : decode gb_Model_isGear 6 = .ok (.iconst 1, 1) := by decide +kernel
theorem gd_Model_isGear_7 : decode gb_Model_isGear 7 = .ok (.isub, 1) := by decide +kernel
theorem gd_Model_isGear_8 : decode gb_Model_isGear 8 = .ok (.invokestatic 119, 3) := by decide +kernel
theorem gd_Model_isGear_11 : decode gb_Model_isGear 11 = .ok (.ireturn, 1) := by decide +kernel
def gf_Model_isGear_b0 (F : Nat) (z : gw_Sh)  (u : gw_St) (t0 : Nat) (x1 : Int32) : Option (Int32 × gw_St) :=
  gf_cl (gf_Model_within F z u x1 (0 : Int32) ((u.1 t0 18) - (1 : Int32))) fun a3 u1 => if ¬ (a3 &&& 1 = a3) then none else some (a3, u1)
def gf_Model_isGear (F : Nat) (z : gw_Sh) (u : gw_St) (t0 : Nat) (x1 : Int32) : Option (Int32 × gw_St) := gf_Model_isGear_b0 F z  u t0 x1
set_option maxHeartbeats 4000000 in
set_option maxRecDepth 20000 in
theorem gx_Model_isGear_b0 {p : Program} {l : Launch} {e : Env} {s : State} {m : MethodId} {args : Array Value} {below : List Frame} {meth : Method} {c : Code} {D : va_G} {cA : Nat → ClassId} {hs : Nat → Nat} {z : gw_Sh} (F : Nat) {r0 : (Int32 × gw_St)} (C : gw_Cx p s m args c gb_Model_isGear 2 R_Model D cA) (hr : meth.sig.returnType = (some .boolean)) (hk : meth.locks = false) (u : gw_St) (t0 : Nat) (x1 : Int32) (o_t0 : gw_ok z t0 9) {H : Heap} {locs : List Loc} {ls : Array Slot} (hW : gw_Wx D cA hs z s u H locs) (hl : lv_has ls 2 [(0, .ref (hs t0)), (1, .int x1)]) (h : gf_Model_isGear_b0 F z   u t0 x1 = some r0) : gw_Gi p l e gr_Model_isGear s m args below meth c D cA hs z r0 H locs ls 0 [] := by
  obtain ⟨hx, hb, hml, hown, hts, hK⟩ := id C
  unfold gf_Model_isGear_b0 at h
  refine lv_iload_n hx hb gd_Model_isGear_0 rfl (lv_at hl 1 rfl) ?_
  refine lv_iconst (v := 0) hx hb gd_Model_isGear_1 (by decide) ?_
  refine lv_aload_n hx hb gd_Model_isGear_2 rfl (lv_at hl 0 rfl) ?_
  refine gw_geti (k := 18) (ref := R_Model) C hW o_t0 (by decide) rfl gi_Model rfl (by decide) rfl rfl gk_461 gd_Model_isGear_3 ?_
  refine lv_iconst (v := 1) hx hb gd_Model_isGear_6 (by decide) ?_
  refine lv_isub hx hb gd_Model_isGear_7 ?_
  obtain ⟨a3, u1, d2, h⟩ := gf_cl_ok h
  refine gw_callSi (As := [.int x1, .int (0 : Int32), .int ((u.1 t0 18) - (1 : Int32))]) (rest := []) C hW (fun _ h => Or.inr h) hl.1 gm_Model_within (gc_Model_within l F  d2 _) gk_398 gk_399 rfl rfl ⟨Nat.le_of_ble_eq_true rfl, Nat.le_of_ble_eq_true rfl⟩ ⟨Nat.zero_le _, Nat.zero_le _⟩ rfl rfl (Nat.le_of_ble_eq_true rfl) gd_Model_isGear_8 (fun H locs hW => ?_)
  obtain ⟨g4, h⟩ := gf_if_ok h
  obtain rfl := Option.some.inj h
  exact gw_zret C hW hr (Decidable.not_not.mp g4) hk gd_Model_isGear_11

set_option maxRecDepth 20000 in
theorem gc_Model_isGear (l : Launch) {D : va_G} {cA : Nat → ClassId} {hs : Nat → Nat} {z : gw_Sh} (F : Nat) {u : gw_St} {r0 : (Int32 × gw_St)} {t0 : Nat} {x1 : Int32} (o_t0 : gw_ok z t0 9) (h : gf_Model_isGear F z u t0 x1 = some r0) (sz : Nat) : gw_Mi l gy_Model_isGear gb_Model_isGear 2 (some .boolean) gr_Model_isGear [.ref (hs t0), .int x1] D cA hs z u sz r0 := by
  refine gw_enter (by decide) (Nat.le_of_ble_eq_true rfl) ?_
  intro p e s m below meth c ls hsz C hW hr hk _ hl
  subst hsz
  exact gx_Model_isGear_b0 F C hr hk u t0 x1 o_t0 hW (lv_sub hl [0, 1] rfl) h
-- GearDeskModel.relate(IIII)I
theorem gk_466 : Cond.fieldLink R_Model 223 R_Model "relations" "I" ∈ gt_T := gt_m6 (List.mem_of_getElem? (i := 71) rfl) rfl
theorem gk_467 : Cond.fieldLink R_Model 27 R_Model "kinds" "[I" ∈ gt_T := gt_m6 (List.mem_of_getElem? (i := 74) rfl) rfl
theorem gk_468 : Cond.fieldLink R_Model 30 R_Model "first" "[I" ∈ gt_T := gt_m6 (List.mem_of_getElem? (i := 75) rfl) rfl
theorem gk_469 : Cond.fieldLink R_Model 33 R_Model "second" "[I" ∈ gt_T := gt_m6 (List.mem_of_getElem? (i := 76) rfl) rfl
theorem gk_470 : Cond.fieldLink R_Model 36 R_Model "third" "[I" ∈ gt_T := gt_m6 (List.mem_of_getElem? (i := 77) rfl) rfl
theorem gk_471 : Cond.methodLink R_Model 220 gy_Model_isGear ∈ gt_T := gt_m7 (List.mem_of_getElem? (i := 53) rfl) rfl
theorem gk_472 : Cond.instanceMethod gy_Model_isGear ∈ gt_T := gt_m7 (List.mem_of_getElem? (i := 55) rfl) rfl
theorem gk_473 : Cond.selects R_Model gy_Model_isGear gy_Model_isGear ∈ gt_T := gt_p3 (List.mem_of_getElem? (i := 12) rfl) rfl
def gy_Model_relate : MethodName := ⟨R_Model, "relate", "(IIII)I"⟩
abbrev gb_Model_relate : ByteArray := prog_11_method_26_code
theorem gk_474 : Cond.code gy_Model_relate gb_Model_relate 6 (some .int) ∈ gt_T := gt_m7 (List.mem_of_getElem? (i := 52) rfl) rfl
def gr_Model_relate : Room := gw_rm 3 107
theorem gm_Model_relate : gw_Mth gy_Model_relate gb_Model_relate 6 (some .int) 4 := ⟨gk_474, gk_377, ⟨by decide +kernel, by decide +kernel⟩, by decide +kernel⟩
theorem gd_Model_relate_0 : decode gb_Model_relate 0 = .ok (.aload_n 0, 1) := by decide +kernel
theorem gd_Model_relate_1 : decode gb_Model_relate 1 = .ok (.iconst 0, 1) := by decide +kernel
theorem gd_Model_relate_2 : decode gb_Model_relate 2 = .ok (.putfield 112, 3) := by decide +kernel
theorem gd_Model_relate_5 : decode gb_Model_relate 5 = .ok (.iload_n 1, 1) := by decide +kernel
theorem gd_Model_relate_6 : decode gb_Model_relate 6 = .ok (.iconst 3, 1) := by decide +kernel
theorem gd_Model_relate_7 : decode gb_Model_relate 7 = .ok (.if_icmp .ne 7, 3) := by decide +kernel
theorem gd_Model_relate_10 : decode gb_Model_relate 10 = .ok (.iconst 1, 1) := by decide +kernel
theorem gd_Model_relate_11 : decode gb_Model_relate 11 = .ok (.goto 4, 3) := by decide +kernel
theorem gd_Model_relate_14 : decode gb_Model_relate 14 = .ok (.iconst 0, 1) := by decide +kernel
theorem gd_Model_relate_15 : decode gb_Model_relate 15 = .ok (.istore 5, 2) := by decide +kernel
theorem gd_Model_relate_17 : decode gb_Model_relate 17 = .ok (.aload_n 0, 1) := by decide +kernel
theorem gd_Model_relate_18 : decode gb_Model_relate 18 = .ok (.iload_n 2, 1) := by decide +kernel
theorem gd_Model_relate_19 : decode gb_Model_relate 19 = .ok (.invokevirtual 220, 3) := by decide +kernel
theorem gd_Model_relate_22 : decode gb_Model_relate 22 = .ok (.ifCond .eq 25, 3) := by decide +kernel
theorem gd_Model_relate_25 : decode gb_Model_relate 25 = .ok (.aload_n 0, 1) := by decide +kernel
theorem gd_Model_relate_26 : decode gb_Model_relate 26 = .ok (.iload_n 3, 1) := by decide +kernel
theorem gd_Model_relate_27 : decode gb_Model_relate 27 = .ok (.invokevirtual 220, 3) := by decide +kernel
theorem gd_Model_relate_30 : decode gb_Model_relate 30 = .ok (.ifCond .eq 17, 3) := by decide +kernel
theorem gd_Model_relate_33 : decode gb_Model_relate 33 = .ok (.iload 5, 2) := by decide +kernel
theorem gd_Model_relate_35 : decode gb_Model_relate 35 = .ok (.ifCond .eq 18, 3) := by decide +kernel
theorem gd_Model_relate_38 : decode gb_Model_relate 38 = .ok (.aload_n 0, 1) := by decide +kernel
theorem gd_Model_relate_39 : decode gb_Model_relate 39 = .ok (.iload 4, 2) := by decide +kernel
theorem gd_Model_relate_41 : decode gb_Model_relate 41 = .ok (.invokevirtual 220, 3) := by decide +kernel
theorem gd_Model_relate_44 : decode gb_Model_relate 44 = .ok (.ifCond .ne 9, 3) := by decide +kernel
theorem gd_Model_relate_47 : decode gb_Model_relate 47 = .ok (.aload_n 0, 1) := by decide +kernel
theorem gd_Model_relate_48 : decode gb_Model_relate 48 = .ok (.iconst 1, 1) := by decide +kernel
theorem gd_Model_relate_49 : decode gb_Model_relate 49 = .ok (.invokevirtual 123, 3) := by decide +kernel
theorem gd_Model_relate_52 : decode gb_Model_relate 52 = .ok (.ireturn, 1) := by decide +kernel
theorem gd_Model_relate_53 : decode gb_Model_relate 53 = .ok (.iload_n 2, 1) := by decide +kernel
theorem gd_Model_relate_54 : decode gb_Model_relate 54 = .ok (.iload_n 3, 1) := by decide +kernel
theorem gd_Model_relate_55 : decode gb_Model_relate 55 = .ok (.if_icmp .eq 40, 3) := by decide +kernel
theorem gd_Model_relate_58 : decode gb_Model_relate 58 = .ok (.iload 5, 2) := by decide +kernel
theorem gd_Model_relate_60 : decode gb_Model_relate 60 = .ok (.ifCond .eq 15, 3) := by decide +kernel
theorem gd_Model_relate_63 : decode gb_Model_relate 63 = .ok (.iload_n 2, 1) := by decide +kernel
theorem gd_Model_relate_64 : decode gb_Model_relate 64 = .ok (.iload 4, 2) := by decide +kernel
theorem gd_Model_relate_66 : decode gb_Model_relate 66 = .ok (.if_icmp .eq 29, 3) := by decide +kernel
theorem gd_Model_relate_69 : decode gb_Model_relate 69 = .ok (.iload_n 3, 1) := by decide +kernel
theorem gd_Model_relate_70 : decode gb_Model_relate 70 = .ok (.iload 4, 2) := by decide +kernel
theorem gd_Model_relate_72 : decode gb_Model_relate 72 = .ok (.if_icmp .eq 23, 3) := by decide +kernel
theorem gd_Model_relate_75 : decode gb_Model_relate 75 = .ok (.iload_n 1, 1) := by decide +kernel
theorem gd_Model_relate_76 : decode gb_Model_relate 76 = .ok (.iconst 1, 1) := by decide +kernel
theorem gd_Model_relate_77 : decode gb_Model_relate 77 = .ok (.if_icmp .ne 24, 3) := by decide +kernel
theorem gd_Model_relate_80 : decode gb_Model_relate 80 = .ok (.aload_n 0, 1) := by decide +kernel
theorem gd_Model_relate_81 : decode gb_Model_relate 81 = .ok (.getfield 24, 3) := by decide +kernel
theorem gd_Model_relate_84 : decode gb_Model_relate 84 = .ok (.iload_n 3, 1) := by decide +kernel
theorem gd_Model_relate_85 : decode gb_Model_relate 85 = .ok (.iaload, 1) := by decide +kernel
theorem gd_Model_relate_86 : decode gb_Model_relate 86 = .ok (.aload_n 0, 1) := by decide +kernel
theorem gd_Model_relate_87 : decode gb_Model_relate 87 = .ok (.getfield 24, 3) := by decide +kernel
theorem gd_Model_relate_90 : decode gb_Model_relate 90 = .ok (.iload_n 2, 1) := by decide +kernel
theorem gd_Model_relate_91 : decode gb_Model_relate 91 = .ok (.iaload, 1) := by decide +kernel
theorem gd_Model_relate_92 : decode gb_Model_relate 92 = .ok (.if_icmp .gt 9, 3) := by decide +kernel
theorem gd_Model_relate_95 : decode gb_Model_relate 95 = .ok (.aload_n 0, 1) := by decide +kernel
theorem gd_Model_relate_96 : decode gb_Model_relate 96 = .ok (.iconst 2, 1) := by decide +kernel
theorem gd_Model_relate_97 : decode gb_Model_relate 97 = .ok (.invokevirtual 123, 3) := by decide +kernel
theorem gd_Model_relate_100 : decode gb_Model_relate 100 = .ok (.ireturn, 1) := by decide +kernel
theorem gd_Model_relate_101 : decode gb_Model_relate 101 = .ok (.aload_n 0, 1) := by decide +kernel
theorem gd_Model_relate_102 : decode gb_Model_relate 102 = .ok (.getfield 223, 3) := by decide +kernel
theorem gd_Model_relate_105 : decode gb_Model_relate 105 = .ok (.bipush 120, 2) := by decide +kernel
theorem gd_Model_relate_107 : decode gb_Model_relate 107 = .ok (.if_icmp .ne 9, 3) := by decide +kernel
theorem gd_Model_relate_110 : decode gb_Model_relate 110 = .ok (.aload_n 0, 1) := by decide +kernel
theorem gd_Model_relate_111 : decode gb_Model_relate 111 = .ok (.iconst 3, 1) := by decide +kernel
theorem gd_Model_relate_112 : decode gb_Model_relate 112 = .ok (.invokevirtual 123, 3) := by decide +kernel
theorem gd_Model_relate_115 : decode gb_Model_relate 115 = .ok (.ireturn, 1) := by decide +kernel
theorem gd_Model_relate_116 : decode gb_Model_relate 116 = .ok (.aload_n 0, 1) := by decide +kernel
theorem gd_Model_relate_117 : decode gb_Model_relate 117 = .ok (.getfield 27, 3) := by decide +kernel
theorem gd_Model_relate_120 : decode gb_Model_relate 120 = .ok (.aload_n 0, 1) := by decide +kernel
theorem gd_Model_relate_121 : decode gb_Model_relate 121 = .ok (.getfield 223, 3) := by decide +kernel
theorem gd_Model_relate_124 : decode gb_Model_relate 124 = .ok (.iload_n 1, 1) := by decide +kernel
theorem gd_Model_relate_125 : decode gb_Model_relate 125 = .ok (.iastore, 1) := by decide +kernel
theorem gd_Model_relate_126 : decode gb_Model_relate 126 = .ok (.aload_n 0, 1) := by decide +kernel
theorem gd_Model_relate_127 : decode gb_Model_relate 127 = .ok (.getfield 30, 3) := by decide +kernel
theorem gd_Model_relate_130 : decode gb_Model_relate 130 = .ok (.aload_n 0, 1) := by decide +kernel
theorem gd_Model_relate_131 : decode gb_Model_relate 131 = .ok (.getfield 223, 3) := by decide +kernel
theorem gd_Model_relate_134 : decode gb_Model_relate 134 = .ok (.iload_n 2, 1) := by decide +kernel
theorem gd_Model_relate_135 : decode gb_Model_relate 135 = .ok (.iastore, 1) := by decide +kernel
theorem gd_Model_relate_136 : decode gb_Model_relate 136 = .ok (.aload_n 0, 1) := by decide +kernel
theorem gd_Model_relate_137 : decode gb_Model_relate 137 = .ok (.getfield 33, 3) := by decide +kernel
theorem gd_Model_relate_140 : decode gb_Model_relate 140 = .ok (.aload_n 0, 1) := by decide +kernel
theorem gd_Model_relate_141 : decode gb_Model_relate 141 = .ok (.getfield 223, 3) := by decide +kernel
theorem gd_Model_relate_144 : decode gb_Model_relate 144 = .ok (.iload_n 3, 1) := by decide +kernel
theorem gd_Model_relate_145 : decode gb_Model_relate 145 = .ok (.iastore, 1) := by decide +kernel
theorem gd_Model_relate_146 : decode gb_Model_relate 146 = .ok (.aload_n 0, 1) := by decide +kernel
theorem gd_Model_relate_147 : decode gb_Model_relate 147 = .ok (.getfield 36, 3) := by decide +kernel
theorem gd_Model_relate_150 : decode gb_Model_relate 150 = .ok (.aload_n 0, 1) := by decide +kernel
theorem gd_Model_relate_151 : decode gb_Model_relate 151 = .ok (.getfield 223, 3) := by decide +kernel
theorem gd_Model_relate_154 : decode gb_Model_relate 154 = .ok (.iload 4, 2) := by decide +kernel
theorem gd_Model_relate_156 : decode gb_Model_relate 156 = .ok (.iastore, 1) := by decide +kernel
theorem gd_Model_relate_157 : decode gb_Model_relate 157 = .ok (.aload_n 0, 1) := by decide +kernel
theorem gd_Model_relate_158 : decode gb_Model_relate 158 = .ok (.dup, 1) := by decide +kernel
theorem gd_Model_relate_159 : decode gb_Model_relate 159 = .ok (.getfield 223, 3) := by decide +kernel
theorem gd_Model_relate_162 : decode gb_Model_relate 162 = .ok (.iconst 1, 1) := by decide +kernel
theorem gd_Model_relate_163 : decode gb_Model_relate 163 = .ok (.iadd, 1) := by decide +kernel
theorem gd_Model_relate_164 : decode gb_Model_relate 164 = .ok (.putfield 223, 3) := by decide +kernel
theorem gd_Model_relate_167 : decode gb_Model_relate 167 = .ok (.aload_n 0, 1) := by decide +kernel
theorem gd_Model_relate_168 : decode gb_Model_relate 168 = .ok (.getfield 223, 3) := by decide +kernel
theorem gd_Model_relate_171 : decode gb_Model_relate 171 = .ok (.iconst 1, 1) := by decide +kernel
theorem gd_Model_relate_172 : decode gb_Model_relate 172 = .ok (.isub, 1) := by decide +kernel
theorem gd_Model_relate_173 : decode gb_Model_relate 173 = .ok (.ireturn, 1) := by decide +kernel
def gf_Model_relate_b47 (F : Nat) (z : gw_Sh)  (u : gw_St) (t0 : Nat) : Option (Int32 × gw_St) :=
  gf_cl (gf_Model_fail F z u t0 (1 : Int32)) fun a3 u1 => some (a3, u1)
def gf_Model_relate_b95 (F : Nat) (z : gw_Sh)  (u : gw_St) (t0 : Nat) : Option (Int32 × gw_St) :=
  gf_cl (gf_Model_fail F z u t0 (2 : Int32)) fun a6 u4 => some (a6, u4)
def gf_Model_relate_b101 (F : Nat) (z : gw_Sh)  (u : gw_St) (t0 : Nat) (x1 : Int32) (x2 : Int32) (x3 : Int32) (x4 : Int32) : Option (Int32 × gw_St) :=
  if (u.1 t0 19) = (120 : Int32) then (gf_cl (gf_Model_fail F z u t0 (3 : Int32)) fun a32 u30 => some (a32, u30)) else (gf_nn (u.2.2 t0 22) fun q8 => if ((u.1 t0 19) < 0 ∨ z.2.2 q8 ≤ ((u.1 t0 19)).toNatClampNeg) then none else gf_nm (gw_wi u q8 ((u.1 t0 19)).toNatClampNeg x1) fun u11 => gf_nn (u11.2.2 t0 23) fun q13 => if ((u11.1 t0 19) < 0 ∨ z.2.2 q13 ≤ ((u11.1 t0 19)).toNatClampNeg) then none else gf_nm (gw_wi u11 q13 ((u11.1 t0 19)).toNatClampNeg x2) fun u16 => gf_nn (u16.2.2 t0 24) fun q18 => if ((u16.1 t0 19) < 0 ∨ z.2.2 q18 ≤ ((u16.1 t0 19)).toNatClampNeg) then none else gf_nm (gw_wi u16 q18 ((u16.1 t0 19)).toNatClampNeg x3) fun u21 => gf_nn (u21.2.2 t0 25) fun q23 => if ((u21.1 t0 19) < 0 ∨ z.2.2 q23 ≤ ((u21.1 t0 19)).toNatClampNeg) then none else gf_nm (gw_wi u21 q23 ((u21.1 t0 19)).toNatClampNeg x4) fun u26 => gf_nm (gw_wi u26 t0 19 ((u26.1 t0 19) + (1 : Int32))) fun u28 => some (((u28.1 t0 19) - (1 : Int32)), u28))
def gf_Model_relate_b75 (F : Nat) (z : gw_Sh)  (u : gw_St) (t0 : Nat) (x1 : Int32) (x2 : Int32) (x3 : Int32) (x4 : Int32) : Option (Int32 × gw_St) :=
  if x1 = (1 : Int32) then (gf_nn (u.2.2 t0 21) fun q34 => if (x3 < 0 ∨ z.2.2 q34 ≤ (x3).toNatClampNeg) then none else gf_nn (u.2.2 t0 21) fun q37 => if (x2 < 0 ∨ z.2.2 q37 ≤ (x2).toNatClampNeg) then none else if (u.1 q37 (x2).toNatClampNeg) < (u.1 q34 (x3).toNatClampNeg) then (gf_Model_relate_b101 F z  u t0 x1 x2 x3 x4) else (gf_Model_relate_b95 F z  u t0)) else (gf_Model_relate_b101 F z  u t0 x1 x2 x3 x4)
def gf_Model_relate_b53 (F : Nat) (z : gw_Sh)  (u : gw_St) (t0 : Nat) (x1 : Int32) (x2 : Int32) (x3 : Int32) (x4 : Int32) (x5 : Int32) : Option (Int32 × gw_St) :=
  if x2 = x3 then (gf_Model_relate_b95 F z  u t0) else (if x5 = 0 then (gf_Model_relate_b75 F z  u t0 x1 x2 x3 x4) else (if x2 = x4 then (gf_Model_relate_b95 F z  u t0) else (if x3 = x4 then (gf_Model_relate_b95 F z  u t0) else (gf_Model_relate_b75 F z  u t0 x1 x2 x3 x4))))
def gf_Model_relate_b15 (F : Nat) (z : gw_Sh)  (u : gw_St) (t0 : Nat) (x1 : Int32) (x2 : Int32) (x3 : Int32) (x4 : Int32) (sx0 : Int32) : Option (Int32 × gw_St) :=
  gf_cl (gf_Model_isGear F z u t0 x2) fun a47 u45 => if a47 = 0 then (gf_Model_relate_b47 F z  u45 t0) else (gf_cl (gf_Model_isGear F z u45 t0 x3) fun a51 u49 => if a51 = 0 then (gf_Model_relate_b47 F z  u49 t0) else (if sx0 = 0 then (gf_Model_relate_b53 F z  u49 t0 x1 x2 x3 x4 sx0) else (gf_cl (gf_Model_isGear F z u49 t0 x4) fun a56 u54 => if a56 = 0 then (gf_Model_relate_b47 F z  u54 t0) else (gf_Model_relate_b53 F z  u54 t0 x1 x2 x3 x4 sx0))))
def gf_Model_relate_b0 (F : Nat) (z : gw_Sh)  (u : gw_St) (t0 : Nat) (x1 : Int32) (x2 : Int32) (x3 : Int32) (x4 : Int32) : Option (Int32 × gw_St) :=
  gf_nm (gw_wi u t0 0 (0 : Int32)) fun u58 => if x1 = (3 : Int32) then (gf_Model_relate_b15 F z  u58 t0 x1 x2 x3 x4 1) else (gf_Model_relate_b15 F z  u58 t0 x1 x2 x3 x4 0)
def gf_Model_relate (F : Nat) (z : gw_Sh) (u : gw_St) (t0 : Nat) (x1 : Int32) (x2 : Int32) (x3 : Int32) (x4 : Int32) : Option (Int32 × gw_St) := gf_Model_relate_b0 F z  u t0 x1 x2 x3 x4
set_option maxHeartbeats 4000000 in
set_option maxRecDepth 20000 in
theorem gx_Model_relate_b47 {p : Program} {l : Launch} {e : Env} {s : State} {m : MethodId} {args : Array Value} {below : List Frame} {meth : Method} {c : Code} {D : va_G} {cA : Nat → ClassId} {hs : Nat → Nat} {z : gw_Sh} (F : Nat) {r0 : (Int32 × gw_St)} (C : gw_Cx p s m args c gb_Model_relate 6 R_Model D cA) (hr : meth.sig.returnType = (some .int)) (hk : meth.locks = false) (u : gw_St) (t0 : Nat) (o_t0 : gw_ok z t0 9) {H : Heap} {locs : List Loc} {ls : Array Slot} (hW : gw_Wx D cA hs z s u H locs) (hl : lv_has ls 6 [(0, .ref (hs t0))]) (h : gf_Model_relate_b47 F z   u t0 = some r0) : gw_Gi p l e gr_Model_relate s m args below meth c D cA hs z r0 H locs ls 47 [] := by
  obtain ⟨hx, hb, hml, hown, hts, hK⟩ := id C
  unfold gf_Model_relate_b47 at h
  refine lv_aload_n hx hb gd_Model_relate_47 rfl (lv_at hl 0 rfl) ?_
  refine lv_iconst (v := 1) hx hb gd_Model_relate_48 (by decide) ?_
  obtain ⟨a3, u1, d2, h⟩ := gf_cl_ok h
  refine gw_callVi (K := R_Model) (As := [.int (1 : Int32)]) (rest := []) C hW (fun _ h => Or.inr h) hl.1 gm_Model_fail (gc_Model_fail l F o_t0 d2 _) gk_385 gk_386 gk_387 o_t0 (by decide) rfl rfl rfl ⟨Nat.le_of_ble_eq_true rfl, Nat.le_of_ble_eq_true rfl⟩ ⟨Nat.zero_le _, Nat.zero_le _⟩ rfl rfl (Nat.le_of_ble_eq_true rfl) gd_Model_relate_49 (fun H locs hW => ?_)
  obtain rfl := Option.some.inj h
  exact gw_iret C hW hr hk gd_Model_relate_52

set_option maxHeartbeats 4000000 in
set_option maxRecDepth 20000 in
theorem gx_Model_relate_b95 {p : Program} {l : Launch} {e : Env} {s : State} {m : MethodId} {args : Array Value} {below : List Frame} {meth : Method} {c : Code} {D : va_G} {cA : Nat → ClassId} {hs : Nat → Nat} {z : gw_Sh} (F : Nat) {r0 : (Int32 × gw_St)} (C : gw_Cx p s m args c gb_Model_relate 6 R_Model D cA) (hr : meth.sig.returnType = (some .int)) (hk : meth.locks = false) (u : gw_St) (t0 : Nat) (o_t0 : gw_ok z t0 9) {H : Heap} {locs : List Loc} {ls : Array Slot} (hW : gw_Wx D cA hs z s u H locs) (hl : lv_has ls 6 [(0, .ref (hs t0))]) (h : gf_Model_relate_b95 F z   u t0 = some r0) : gw_Gi p l e gr_Model_relate s m args below meth c D cA hs z r0 H locs ls 95 [] := by
  obtain ⟨hx, hb, hml, hown, hts, hK⟩ := id C
  unfold gf_Model_relate_b95 at h
  refine lv_aload_n hx hb gd_Model_relate_95 rfl (lv_at hl 0 rfl) ?_
  refine lv_iconst (v := 2) hx hb gd_Model_relate_96 (by decide) ?_
  obtain ⟨a6, u4, d5, h⟩ := gf_cl_ok h
  refine gw_callVi (K := R_Model) (As := [.int (2 : Int32)]) (rest := []) C hW (fun _ h => Or.inr h) hl.1 gm_Model_fail (gc_Model_fail l F o_t0 d5 _) gk_385 gk_386 gk_387 o_t0 (by decide) rfl rfl rfl ⟨Nat.le_of_ble_eq_true rfl, Nat.le_of_ble_eq_true rfl⟩ ⟨Nat.zero_le _, Nat.zero_le _⟩ rfl rfl (Nat.le_of_ble_eq_true rfl) gd_Model_relate_97 (fun H locs hW => ?_)
  obtain rfl := Option.some.inj h
  exact gw_iret C hW hr hk gd_Model_relate_100

set_option maxHeartbeats 4000000 in
set_option maxRecDepth 20000 in
theorem gx_Model_relate_b101 {p : Program} {l : Launch} {e : Env} {s : State} {m : MethodId} {args : Array Value} {below : List Frame} {meth : Method} {c : Code} {D : va_G} {cA : Nat → ClassId} {hs : Nat → Nat} {z : gw_Sh} (F : Nat) {r0 : (Int32 × gw_St)} (C : gw_Cx p s m args c gb_Model_relate 6 R_Model D cA) (hr : meth.sig.returnType = (some .int)) (hk : meth.locks = false) (u : gw_St) (t0 : Nat) (x1 : Int32) (x2 : Int32) (x3 : Int32) (x4 : Int32) (o_t0 : gw_ok z t0 9) {H : Heap} {locs : List Loc} {ls : Array Slot} (hW : gw_Wx D cA hs z s u H locs) (hl : lv_has ls 6 [(0, .ref (hs t0)), (1, .int x1), (2, .int x2), (3, .int x3), (4, .int x4)]) (h : gf_Model_relate_b101 F z   u t0 x1 x2 x3 x4 = some r0) : gw_Gi p l e gr_Model_relate s m args below meth c D cA hs z r0 H locs ls 101 [] := by
  obtain ⟨hx, hb, hml, hown, hts, hK⟩ := id C
  unfold gf_Model_relate_b101 at h
  refine lv_aload_n hx hb gd_Model_relate_101 rfl (lv_at hl 0 rfl) ?_
  refine gw_geti (k := 19) (ref := R_Model) C hW o_t0 (by decide) rfl gi_Model rfl (by decide) rfl rfl gk_466 gd_Model_relate_102 ?_
  refine lv_bipush (v := 120) hx hb gd_Model_relate_105 (by decide) ?_
  refine lv_icmp_ne (tgt := 116) hx hb gd_Model_relate_107 (by decide) (fun c7 => ?_) (fun c7 => ?_)
  · have h := gf_f c7 h
    refine lv_aload_n hx hb gd_Model_relate_116 rfl (lv_at hl 0 rfl) ?_
    obtain ⟨q8, e9, h⟩ := gf_nn_ok h
    refine gw_getr (k := 22) (ty := 10) (ref := R_Model) C hW o_t0 (by decide) rfl gi_Model rfl (by decide) rfl rfl gk_467 gd_Model_relate_117 e9 ?_
    have o_q8 := hW.ref (d := 10) o_t0 e9 rfl
    refine lv_aload_n hx hb gd_Model_relate_120 rfl (lv_at hl 0 rfl) ?_
    refine gw_geti (k := 19) (ref := R_Model) C hW o_t0 (by decide) rfl gi_Model rfl (by decide) rfl rfl gk_466 gd_Model_relate_121 ?_
    refine lv_iload_n hx hb gd_Model_relate_124 rfl (lv_at hl 1 rfl) ?_
    obtain ⟨g10, h⟩ := gf_if_ok h
    refine gw_iast C hW o_q8 g10 gd_Model_relate_125 (fun u11 H locs e12 hW => ?_)
    have h := gf_nm_ok e12 h
    refine lv_aload_n hx hb gd_Model_relate_126 rfl (lv_at hl 0 rfl) ?_
    obtain ⟨q13, e14, h⟩ := gf_nn_ok h
    refine gw_getr (k := 23) (ty := 10) (ref := R_Model) C hW o_t0 (by decide) rfl gi_Model rfl (by decide) rfl rfl gk_468 gd_Model_relate_127 e14 ?_
    have o_q13 := hW.ref (d := 10) o_t0 e14 rfl
    refine lv_aload_n hx hb gd_Model_relate_130 rfl (lv_at hl 0 rfl) ?_
    refine gw_geti (k := 19) (ref := R_Model) C hW o_t0 (by decide) rfl gi_Model rfl (by decide) rfl rfl gk_466 gd_Model_relate_131 ?_
    refine lv_iload_n hx hb gd_Model_relate_134 rfl (lv_at hl 2 rfl) ?_
    obtain ⟨g15, h⟩ := gf_if_ok h
    refine gw_iast C hW o_q13 g15 gd_Model_relate_135 (fun u16 H locs e17 hW => ?_)
    have h := gf_nm_ok e17 h
    refine lv_aload_n hx hb gd_Model_relate_136 rfl (lv_at hl 0 rfl) ?_
    obtain ⟨q18, e19, h⟩ := gf_nn_ok h
    refine gw_getr (k := 24) (ty := 10) (ref := R_Model) C hW o_t0 (by decide) rfl gi_Model rfl (by decide) rfl rfl gk_469 gd_Model_relate_137 e19 ?_
    have o_q18 := hW.ref (d := 10) o_t0 e19 rfl
    refine lv_aload_n hx hb gd_Model_relate_140 rfl (lv_at hl 0 rfl) ?_
    refine gw_geti (k := 19) (ref := R_Model) C hW o_t0 (by decide) rfl gi_Model rfl (by decide) rfl rfl gk_466 gd_Model_relate_141 ?_
    refine lv_iload_n hx hb gd_Model_relate_144 rfl (lv_at hl 3 rfl) ?_
    obtain ⟨g20, h⟩ := gf_if_ok h
    refine gw_iast C hW o_q18 g20 gd_Model_relate_145 (fun u21 H locs e22 hW => ?_)
    have h := gf_nm_ok e22 h
    refine lv_aload_n hx hb gd_Model_relate_146 rfl (lv_at hl 0 rfl) ?_
    obtain ⟨q23, e24, h⟩ := gf_nn_ok h
    refine gw_getr (k := 25) (ty := 10) (ref := R_Model) C hW o_t0 (by decide) rfl gi_Model rfl (by decide) rfl rfl gk_470 gd_Model_relate_147 e24 ?_
    have o_q23 := hW.ref (d := 10) o_t0 e24 rfl
    refine lv_aload_n hx hb gd_Model_relate_150 rfl (lv_at hl 0 rfl) ?_
    refine gw_geti (k := 19) (ref := R_Model) C hW o_t0 (by decide) rfl gi_Model rfl (by decide) rfl rfl gk_466 gd_Model_relate_151 ?_
    refine lv_iload hx hb gd_Model_relate_154 (lv_at hl 4 rfl) ?_
    obtain ⟨g25, h⟩ := gf_if_ok h
    refine gw_iast C hW o_q23 g25 gd_Model_relate_156 (fun u26 H locs e27 hW => ?_)
    have h := gf_nm_ok e27 h
    refine lv_aload_n hx hb gd_Model_relate_157 rfl (lv_at hl 0 rfl) ?_
    refine lv_dup hx hb gd_Model_relate_158 rfl ?_
    refine gw_geti (k := 19) (ref := R_Model) C hW o_t0 (by decide) rfl gi_Model rfl (by decide) rfl rfl gk_466 gd_Model_relate_159 ?_
    refine lv_iconst (v := 1) hx hb gd_Model_relate_162 (by decide) ?_
    refine lv_iadd hx hb gd_Model_relate_163 ?_
    refine gw_puti (k := 19) (ref := R_Model) (fty := .int) C hW o_t0 (by decide) rfl gi_Model rfl (by decide) rfl rfl gk_466 tf_Model tf_Model_ok nm_Model rfl rfl rfl rfl gd_Model_relate_164 (fun u28 H locs e29 hW => ?_)
    have h := gf_nm_ok e29 h
    refine lv_aload_n hx hb gd_Model_relate_167 rfl (lv_at hl 0 rfl) ?_
    refine gw_geti (k := 19) (ref := R_Model) C hW o_t0 (by decide) rfl gi_Model rfl (by decide) rfl rfl gk_466 gd_Model_relate_168 ?_
    refine lv_iconst (v := 1) hx hb gd_Model_relate_171 (by decide) ?_
    refine lv_isub hx hb gd_Model_relate_172 ?_
    obtain rfl := Option.some.inj h
    exact gw_iret C hW hr hk gd_Model_relate_173
  · have h := gf_t c7 h
    refine lv_aload_n hx hb gd_Model_relate_110 rfl (lv_at hl 0 rfl) ?_
    refine lv_iconst (v := 3) hx hb gd_Model_relate_111 (by decide) ?_
    obtain ⟨a32, u30, d31, h⟩ := gf_cl_ok h
    refine gw_callVi (K := R_Model) (As := [.int (3 : Int32)]) (rest := []) C hW (fun _ h => Or.inr h) hl.1 gm_Model_fail (gc_Model_fail l F o_t0 d31 _) gk_385 gk_386 gk_387 o_t0 (by decide) rfl rfl rfl ⟨Nat.le_of_ble_eq_true rfl, Nat.le_of_ble_eq_true rfl⟩ ⟨Nat.zero_le _, Nat.zero_le _⟩ rfl rfl (Nat.le_of_ble_eq_true rfl) gd_Model_relate_112 (fun H locs hW => ?_)
    obtain rfl := Option.some.inj h
    exact gw_iret C hW hr hk gd_Model_relate_115

set_option maxHeartbeats 4000000 in
set_option maxRecDepth 20000 in
theorem gx_Model_relate_b75 {p : Program} {l : Launch} {e : Env} {s : State} {m : MethodId} {args : Array Value} {below : List Frame} {meth : Method} {c : Code} {D : va_G} {cA : Nat → ClassId} {hs : Nat → Nat} {z : gw_Sh} (F : Nat) {r0 : (Int32 × gw_St)} (C : gw_Cx p s m args c gb_Model_relate 6 R_Model D cA) (hr : meth.sig.returnType = (some .int)) (hk : meth.locks = false) (u : gw_St) (t0 : Nat) (x1 : Int32) (x2 : Int32) (x3 : Int32) (x4 : Int32) (o_t0 : gw_ok z t0 9) {H : Heap} {locs : List Loc} {ls : Array Slot} (hW : gw_Wx D cA hs z s u H locs) (hl : lv_has ls 6 [(0, .ref (hs t0)), (1, .int x1), (2, .int x2), (3, .int x3), (4, .int x4)]) (h : gf_Model_relate_b75 F z   u t0 x1 x2 x3 x4 = some r0) : gw_Gi p l e gr_Model_relate s m args below meth c D cA hs z r0 H locs ls 75 [] := by
  obtain ⟨hx, hb, hml, hown, hts, hK⟩ := id C
  unfold gf_Model_relate_b75 at h
  refine lv_iload_n hx hb gd_Model_relate_75 rfl (lv_at hl 1 rfl) ?_
  refine lv_iconst (v := 1) hx hb gd_Model_relate_76 (by decide) ?_
  refine lv_icmp_ne (tgt := 101) hx hb gd_Model_relate_77 (by decide) (fun c33 => ?_) (fun c33 => ?_)
  · have h := gf_f c33 h
    exact gx_Model_relate_b101 F C hr hk  u t0 x1 x2 x3 x4 o_t0 hW (lv_sub hl [0, 1, 2, 3, 4] rfl) h
  · have h := gf_t c33 h
    refine lv_aload_n hx hb gd_Model_relate_80 rfl (lv_at hl 0 rfl) ?_
    obtain ⟨q34, e35, h⟩ := gf_nn_ok h
    refine gw_getr (k := 21) (ty := 10) (ref := R_Model) C hW o_t0 (by decide) rfl gi_Model rfl (by decide) rfl rfl gk_462 gd_Model_relate_81 e35 ?_
    have o_q34 := hW.ref (d := 10) o_t0 e35 rfl
    refine lv_iload_n hx hb gd_Model_relate_84 rfl (lv_at hl 3 rfl) ?_
    obtain ⟨g36, h⟩ := gf_if_ok h
    refine gw_iald C hW o_q34 g36 gd_Model_relate_85 ?_
    refine lv_aload_n hx hb gd_Model_relate_86 rfl (lv_at hl 0 rfl) ?_
    obtain ⟨q37, e38, h⟩ := gf_nn_ok h
    refine gw_getr (k := 21) (ty := 10) (ref := R_Model) C hW o_t0 (by decide) rfl gi_Model rfl (by decide) rfl rfl gk_462 gd_Model_relate_87 e38 ?_
    have o_q37 := hW.ref (d := 10) o_t0 e38 rfl
    refine lv_iload_n hx hb gd_Model_relate_90 rfl (lv_at hl 2 rfl) ?_
    obtain ⟨g39, h⟩ := gf_if_ok h
    refine gw_iald C hW o_q37 g39 gd_Model_relate_91 ?_
    refine lv_icmp_gt (tgt := 101) hx hb gd_Model_relate_92 (by decide) (fun c40 => ?_) (fun c40 => ?_)
    · have h := gf_t c40 h
      exact gx_Model_relate_b101 F C hr hk  u t0 x1 x2 x3 x4 o_t0 hW (lv_sub hl [0, 1, 2, 3, 4] rfl) h
    · have h := gf_f c40 h
      exact gx_Model_relate_b95 F C hr hk  u t0 o_t0 hW (lv_sub hl [0] rfl) h

set_option maxHeartbeats 4000000 in
set_option maxRecDepth 20000 in
theorem gx_Model_relate_b53 {p : Program} {l : Launch} {e : Env} {s : State} {m : MethodId} {args : Array Value} {below : List Frame} {meth : Method} {c : Code} {D : va_G} {cA : Nat → ClassId} {hs : Nat → Nat} {z : gw_Sh} (F : Nat) {r0 : (Int32 × gw_St)} (C : gw_Cx p s m args c gb_Model_relate 6 R_Model D cA) (hr : meth.sig.returnType = (some .int)) (hk : meth.locks = false) (u : gw_St) (t0 : Nat) (x1 : Int32) (x2 : Int32) (x3 : Int32) (x4 : Int32) (x5 : Int32) (o_t0 : gw_ok z t0 9) {H : Heap} {locs : List Loc} {ls : Array Slot} (hW : gw_Wx D cA hs z s u H locs) (hl : lv_has ls 6 [(0, .ref (hs t0)), (1, .int x1), (2, .int x2), (3, .int x3), (4, .int x4), (5, .int x5)]) (h : gf_Model_relate_b53 F z   u t0 x1 x2 x3 x4 x5 = some r0) : gw_Gi p l e gr_Model_relate s m args below meth c D cA hs z r0 H locs ls 53 [] := by
  obtain ⟨hx, hb, hml, hown, hts, hK⟩ := id C
  unfold gf_Model_relate_b53 at h
  refine lv_iload_n hx hb gd_Model_relate_53 rfl (lv_at hl 2 rfl) ?_
  refine lv_iload_n hx hb gd_Model_relate_54 rfl (lv_at hl 3 rfl) ?_
  refine lv_icmp_eq (tgt := 95) hx hb gd_Model_relate_55 (by decide) (fun c41 => ?_) (fun c41 => ?_)
  · have h := gf_t c41 h
    exact gx_Model_relate_b95 F C hr hk  u t0 o_t0 hW (lv_sub hl [0] rfl) h
  · have h := gf_f c41 h
    refine lv_iload hx hb gd_Model_relate_58 (lv_at hl 5 rfl) ?_
    refine lv_if_eq (tgt := 75) hx hb gd_Model_relate_60 (by decide) (fun c42 => ?_) (fun c42 => ?_)
    · have h := gf_t c42 h
      exact gx_Model_relate_b75 F C hr hk  u t0 x1 x2 x3 x4 o_t0 hW (lv_sub hl [0, 1, 2, 3, 4] rfl) h
    · have h := gf_f c42 h
      refine lv_iload_n hx hb gd_Model_relate_63 rfl (lv_at hl 2 rfl) ?_
      refine lv_iload hx hb gd_Model_relate_64 (lv_at hl 4 rfl) ?_
      refine lv_icmp_eq (tgt := 95) hx hb gd_Model_relate_66 (by decide) (fun c43 => ?_) (fun c43 => ?_)
      · have h := gf_t c43 h
        exact gx_Model_relate_b95 F C hr hk  u t0 o_t0 hW (lv_sub hl [0] rfl) h
      · have h := gf_f c43 h
        refine lv_iload_n hx hb gd_Model_relate_69 rfl (lv_at hl 3 rfl) ?_
        refine lv_iload hx hb gd_Model_relate_70 (lv_at hl 4 rfl) ?_
        refine lv_icmp_eq (tgt := 95) hx hb gd_Model_relate_72 (by decide) (fun c44 => ?_) (fun c44 => ?_)
        · have h := gf_t c44 h
          exact gx_Model_relate_b95 F C hr hk  u t0 o_t0 hW (lv_sub hl [0] rfl) h
        · have h := gf_f c44 h
          exact gx_Model_relate_b75 F C hr hk  u t0 x1 x2 x3 x4 o_t0 hW (lv_sub hl [0, 1, 2, 3, 4] rfl) h

set_option maxHeartbeats 4000000 in
set_option maxRecDepth 20000 in
theorem gx_Model_relate_b15 {p : Program} {l : Launch} {e : Env} {s : State} {m : MethodId} {args : Array Value} {below : List Frame} {meth : Method} {c : Code} {D : va_G} {cA : Nat → ClassId} {hs : Nat → Nat} {z : gw_Sh} (F : Nat) {r0 : (Int32 × gw_St)} (C : gw_Cx p s m args c gb_Model_relate 6 R_Model D cA) (hr : meth.sig.returnType = (some .int)) (hk : meth.locks = false) (u : gw_St) (t0 : Nat) (x1 : Int32) (x2 : Int32) (x3 : Int32) (x4 : Int32) (sx0 : Int32) (o_t0 : gw_ok z t0 9) {H : Heap} {locs : List Loc} {ls : Array Slot} (hW : gw_Wx D cA hs z s u H locs) (hl : lv_has ls 6 [(0, .ref (hs t0)), (1, .int x1), (2, .int x2), (3, .int x3), (4, .int x4)]) (h : gf_Model_relate_b15 F z   u t0 x1 x2 x3 x4 sx0 = some r0) : gw_Gi p l e gr_Model_relate s m args below meth c D cA hs z r0 H locs ls 15 [.int sx0] := by
  obtain ⟨hx, hb, hml, hown, hts, hK⟩ := id C
  unfold gf_Model_relate_b15 at h
  refine lv_istore (lv' := [(5, .int sx0), (0, .ref (hs t0)), (1, .int x1), (2, .int x2), (3, .int x3), (4, .int x4)]) hx hb gd_Model_relate_15 hl (by decide) rfl (fun ls hl => ?_)
  refine lv_aload_n hx hb gd_Model_relate_17 rfl (lv_at hl 1 rfl) ?_
  refine lv_iload_n hx hb gd_Model_relate_18 rfl (lv_at hl 3 rfl) ?_
  obtain ⟨a47, u45, d46, h⟩ := gf_cl_ok h
  refine gw_callVi (K := R_Model) (As := [.int x2]) (rest := []) C hW (fun _ h => Or.inr h) hl.1 gm_Model_isGear (gc_Model_isGear l F o_t0 d46 _) gk_471 gk_472 gk_473 o_t0 (by decide) rfl rfl rfl ⟨Nat.le_of_ble_eq_true rfl, Nat.le_of_ble_eq_true rfl⟩ ⟨Nat.zero_le _, Nat.zero_le _⟩ rfl rfl (Nat.le_of_ble_eq_true rfl) gd_Model_relate_19 (fun H locs hW => ?_)
  refine lv_if_eq (tgt := 47) hx hb gd_Model_relate_22 (by decide) (fun c48 => ?_) (fun c48 => ?_)
  · have h := gf_t c48 h
    exact gx_Model_relate_b47 F C hr hk  u45 t0 o_t0 hW (lv_sub hl [1] rfl) h
  · have h := gf_f c48 h
    refine lv_aload_n hx hb gd_Model_relate_25 rfl (lv_at hl 1 rfl) ?_
    refine lv_iload_n hx hb gd_Model_relate_26 rfl (lv_at hl 4 rfl) ?_
    obtain ⟨a51, u49, d50, h⟩ := gf_cl_ok h
    refine gw_callVi (K := R_Model) (As := [.int x3]) (rest := []) C hW (fun _ h => Or.inr h) hl.1 gm_Model_isGear (gc_Model_isGear l F o_t0 d50 _) gk_471 gk_472 gk_473 o_t0 (by decide) rfl rfl rfl ⟨Nat.le_of_ble_eq_true rfl, Nat.le_of_ble_eq_true rfl⟩ ⟨Nat.zero_le _, Nat.zero_le _⟩ rfl rfl (Nat.le_of_ble_eq_true rfl) gd_Model_relate_27 (fun H locs hW => ?_)
    refine lv_if_eq (tgt := 47) hx hb gd_Model_relate_30 (by decide) (fun c52 => ?_) (fun c52 => ?_)
    · have h := gf_t c52 h
      exact gx_Model_relate_b47 F C hr hk  u49 t0 o_t0 hW (lv_sub hl [1] rfl) h
    · have h := gf_f c52 h
      refine lv_iload hx hb gd_Model_relate_33 (lv_at hl 0 rfl) ?_
      refine lv_if_eq (tgt := 53) hx hb gd_Model_relate_35 (by decide) (fun c53 => ?_) (fun c53 => ?_)
      · have h := gf_t c53 h
        exact gx_Model_relate_b53 F C hr hk  u49 t0 x1 x2 x3 x4 sx0 o_t0 hW (lv_sub hl [1, 2, 3, 4, 5, 0] rfl) h
      · have h := gf_f c53 h
        refine lv_aload_n hx hb gd_Model_relate_38 rfl (lv_at hl 1 rfl) ?_
        refine lv_iload hx hb gd_Model_relate_39 (lv_at hl 5 rfl) ?_
        obtain ⟨a56, u54, d55, h⟩ := gf_cl_ok h
        refine gw_callVi (K := R_Model) (As := [.int x4]) (rest := []) C hW (fun _ h => Or.inr h) hl.1 gm_Model_isGear (gc_Model_isGear l F o_t0 d55 _) gk_471 gk_472 gk_473 o_t0 (by decide) rfl rfl rfl ⟨Nat.le_of_ble_eq_true rfl, Nat.le_of_ble_eq_true rfl⟩ ⟨Nat.zero_le _, Nat.zero_le _⟩ rfl rfl (Nat.le_of_ble_eq_true rfl) gd_Model_relate_41 (fun H locs hW => ?_)
        refine lv_if_ne (tgt := 53) hx hb gd_Model_relate_44 (by decide) (fun c57 => ?_) (fun c57 => ?_)
        · have h := gf_f c57 h
          exact gx_Model_relate_b53 F C hr hk  u54 t0 x1 x2 x3 x4 sx0 o_t0 hW (lv_sub hl [1, 2, 3, 4, 5, 0] rfl) h
        · have h := gf_t c57 h
          exact gx_Model_relate_b47 F C hr hk  u54 t0 o_t0 hW (lv_sub hl [1] rfl) h

set_option maxHeartbeats 4000000 in
set_option maxRecDepth 20000 in
theorem gx_Model_relate_b0 {p : Program} {l : Launch} {e : Env} {s : State} {m : MethodId} {args : Array Value} {below : List Frame} {meth : Method} {c : Code} {D : va_G} {cA : Nat → ClassId} {hs : Nat → Nat} {z : gw_Sh} (F : Nat) {r0 : (Int32 × gw_St)} (C : gw_Cx p s m args c gb_Model_relate 6 R_Model D cA) (hr : meth.sig.returnType = (some .int)) (hk : meth.locks = false) (u : gw_St) (t0 : Nat) (x1 : Int32) (x2 : Int32) (x3 : Int32) (x4 : Int32) (o_t0 : gw_ok z t0 9) {H : Heap} {locs : List Loc} {ls : Array Slot} (hW : gw_Wx D cA hs z s u H locs) (hl : lv_has ls 6 [(0, .ref (hs t0)), (1, .int x1), (2, .int x2), (3, .int x3), (4, .int x4)]) (h : gf_Model_relate_b0 F z   u t0 x1 x2 x3 x4 = some r0) : gw_Gi p l e gr_Model_relate s m args below meth c D cA hs z r0 H locs ls 0 [] := by
  obtain ⟨hx, hb, hml, hown, hts, hK⟩ := id C
  unfold gf_Model_relate_b0 at h
  refine lv_aload_n hx hb gd_Model_relate_0 rfl (lv_at hl 0 rfl) ?_
  refine lv_iconst (v := 0) hx hb gd_Model_relate_1 (by decide) ?_
  refine gw_puti (k := 0) (ref := R_Model) (fty := .int) C hW o_t0 (by decide) rfl gi_Model rfl (by decide) rfl rfl gk_376 tf_Model tf_Model_ok nm_Model rfl rfl rfl rfl gd_Model_relate_2 (fun u58 H locs e59 hW => ?_)
  have h := gf_nm_ok e59 h
  refine lv_iload_n hx hb gd_Model_relate_5 rfl (lv_at hl 1 rfl) ?_
  refine lv_iconst (v := 3) hx hb gd_Model_relate_6 (by decide) ?_
  refine lv_icmp_ne (tgt := 14) hx hb gd_Model_relate_7 (by decide) (fun c60 => ?_) (fun c60 => ?_)
  · have h := gf_f c60 h
    refine lv_iconst (v := 0) hx hb gd_Model_relate_14 (by decide) ?_
    exact gx_Model_relate_b15 F C hr hk  u58 t0 x1 x2 x3 x4 0 o_t0 hW (lv_sub hl [0, 1, 2, 3, 4] rfl) h
  · have h := gf_t c60 h
    refine lv_iconst (v := 1) hx hb gd_Model_relate_10 (by decide) ?_
    refine lv_goto (tgt := 15) hx hb gd_Model_relate_11 (by decide) ?_
    exact gx_Model_relate_b15 F C hr hk  u58 t0 x1 x2 x3 x4 1 o_t0 hW (lv_sub hl [0, 1, 2, 3, 4] rfl) h

set_option maxRecDepth 20000 in
theorem gc_Model_relate (l : Launch) {D : va_G} {cA : Nat → ClassId} {hs : Nat → Nat} {z : gw_Sh} (F : Nat) {u : gw_St} {r0 : (Int32 × gw_St)} {t0 : Nat} {x1 : Int32} {x2 : Int32} {x3 : Int32} {x4 : Int32} (o_t0 : gw_ok z t0 9) (h : gf_Model_relate F z u t0 x1 x2 x3 x4 = some r0) (sz : Nat) : gw_Mi l gy_Model_relate gb_Model_relate 6 (some .int) gr_Model_relate [.ref (hs t0), .int x1, .int x2, .int x3, .int x4] D cA hs z u sz r0 := by
  refine gw_enter (by decide) (Nat.le_of_ble_eq_true rfl) ?_
  intro p e s m below meth c ls hsz C hW hr hk _ hl
  subst hsz
  exact gx_Model_relate_b0 F C hr hk u t0 x1 x2 x3 x4 o_t0 hW (lv_sub hl [0, 1, 2, 3, 4] rfl) h
-- GearDeskModel.mesh(II)I
theorem gk_475 : Cond.methodLink R_Model 226 gy_Model_relate ∈ gt_T := gt_m7 (List.mem_of_getElem? (i := 49) rfl) rfl
theorem gk_476 : Cond.instanceMethod gy_Model_relate ∈ gt_T := gt_m7 (List.mem_of_getElem? (i := 51) rfl) rfl
theorem gk_477 : Cond.selects R_Model gy_Model_relate gy_Model_relate ∈ gt_T := gt_p3 (List.mem_of_getElem? (i := 11) rfl) rfl
def gy_Model_mesh : MethodName := ⟨R_Model, "mesh", "(II)I"⟩
abbrev gb_Model_mesh : ByteArray := prog_11_method_27_code
theorem gk_478 : Cond.code gy_Model_mesh gb_Model_mesh 3 (some .int) ∈ gt_T := gt_m7 (List.mem_of_getElem? (i := 48) rfl) rfl
def gr_Model_mesh : Room := gw_rm 4 132
theorem gm_Model_mesh : gw_Mth gy_Model_mesh gb_Model_mesh 3 (some .int) 2 := ⟨gk_478, gk_377, ⟨by decide +kernel, by decide +kernel⟩, by decide +kernel⟩
theorem gd_Model_mesh_0 : decode gb_Model_mesh 0 = .ok (.aload_n 0, 1) := by decide +kernel
theorem gd_Model_mesh_1 : decode gb_Model_mesh 1 = .ok (.iconst 0, 1) := by decide +kernel
theorem gd_Model_mesh_2 : decode gb_Model_mesh 2 = .ok (.iload_n 1, 1) := by decide +kernel
theorem gd_Model_mesh_3 : decode gb_Model_mesh 3 = .ok (.iload_n 2, 1) := by decide +kernel
theorem gd_Model_mesh_4 : decode gb_Model_mesh 4 = .ok (.iconst (-1), 1) := by decide +kernel
theorem gd_Model_mesh_5 : decode gb_Model_mesh 5 = .ok (.invokevirtual 226, 3) := by decide +kernel
theorem gd_Model_mesh_8 : decode gb_Model_mesh 8 = .ok (.ireturn, 1) := by decide +kernel
def gf_Model_mesh_b0 (F : Nat) (z : gw_Sh)  (u : gw_St) (t0 : Nat) (x1 : Int32) (x2 : Int32) : Option (Int32 × gw_St) :=
  gf_cl (gf_Model_relate F z u t0 (0 : Int32) x1 x2 (-1 : Int32)) fun a3 u1 => some (a3, u1)
def gf_Model_mesh (F : Nat) (z : gw_Sh) (u : gw_St) (t0 : Nat) (x1 : Int32) (x2 : Int32) : Option (Int32 × gw_St) := gf_Model_mesh_b0 F z  u t0 x1 x2
set_option maxHeartbeats 4000000 in
set_option maxRecDepth 20000 in
theorem gx_Model_mesh_b0 {p : Program} {l : Launch} {e : Env} {s : State} {m : MethodId} {args : Array Value} {below : List Frame} {meth : Method} {c : Code} {D : va_G} {cA : Nat → ClassId} {hs : Nat → Nat} {z : gw_Sh} (F : Nat) {r0 : (Int32 × gw_St)} (C : gw_Cx p s m args c gb_Model_mesh 3 R_Model D cA) (hr : meth.sig.returnType = (some .int)) (hk : meth.locks = false) (u : gw_St) (t0 : Nat) (x1 : Int32) (x2 : Int32) (o_t0 : gw_ok z t0 9) {H : Heap} {locs : List Loc} {ls : Array Slot} (hW : gw_Wx D cA hs z s u H locs) (hl : lv_has ls 3 [(0, .ref (hs t0)), (1, .int x1), (2, .int x2)]) (h : gf_Model_mesh_b0 F z   u t0 x1 x2 = some r0) : gw_Gi p l e gr_Model_mesh s m args below meth c D cA hs z r0 H locs ls 0 [] := by
  obtain ⟨hx, hb, hml, hown, hts, hK⟩ := id C
  unfold gf_Model_mesh_b0 at h
  refine lv_aload_n hx hb gd_Model_mesh_0 rfl (lv_at hl 0 rfl) ?_
  refine lv_iconst (v := 0) hx hb gd_Model_mesh_1 (by decide) ?_
  refine lv_iload_n hx hb gd_Model_mesh_2 rfl (lv_at hl 1 rfl) ?_
  refine lv_iload_n hx hb gd_Model_mesh_3 rfl (lv_at hl 2 rfl) ?_
  refine lv_iconst (v := (-1)) hx hb gd_Model_mesh_4 (by decide) ?_
  obtain ⟨a3, u1, d2, h⟩ := gf_cl_ok h
  refine gw_callVi (K := R_Model) (As := [.int (0 : Int32), .int x1, .int x2, .int (-1 : Int32)]) (rest := []) C hW (fun _ h => Or.inr h) hl.1 gm_Model_relate (gc_Model_relate l F o_t0 d2 _) gk_475 gk_476 gk_477 o_t0 (by decide) rfl rfl rfl ⟨Nat.le_of_ble_eq_true rfl, Nat.le_of_ble_eq_true rfl⟩ ⟨Nat.zero_le _, Nat.zero_le _⟩ rfl rfl (Nat.le_of_ble_eq_true rfl) gd_Model_mesh_5 (fun H locs hW => ?_)
  obtain rfl := Option.some.inj h
  exact gw_iret C hW hr hk gd_Model_mesh_8

set_option maxRecDepth 20000 in
theorem gc_Model_mesh (l : Launch) {D : va_G} {cA : Nat → ClassId} {hs : Nat → Nat} {z : gw_Sh} (F : Nat) {u : gw_St} {r0 : (Int32 × gw_St)} {t0 : Nat} {x1 : Int32} {x2 : Int32} (o_t0 : gw_ok z t0 9) (h : gf_Model_mesh F z u t0 x1 x2 = some r0) (sz : Nat) : gw_Mi l gy_Model_mesh gb_Model_mesh 3 (some .int) gr_Model_mesh [.ref (hs t0), .int x1, .int x2] D cA hs z u sz r0 := by
  refine gw_enter (by decide) (Nat.le_of_ble_eq_true rfl) ?_
  intro p e s m below meth c ls hsz C hW hr hk _ hl
  subst hsz
  exact gx_Model_mesh_b0 F C hr hk u t0 x1 x2 o_t0 hW (lv_sub hl [0, 1, 2] rfl) h
-- GearDeskModel.inner(II)I
def gy_Model_inner : MethodName := ⟨R_Model, "inner", "(II)I"⟩
abbrev gb_Model_inner : ByteArray := prog_11_method_28_code
theorem gk_479 : Cond.code gy_Model_inner gb_Model_inner 3 (some .int) ∈ gt_T := gt_m7 (List.mem_of_getElem? (i := 60) rfl) rfl
def gr_Model_inner : Room := gw_rm 4 132
theorem gm_Model_inner : gw_Mth gy_Model_inner gb_Model_inner 3 (some .int) 2 := ⟨gk_479, gk_377, ⟨by decide +kernel, by decide +kernel⟩, by decide +kernel⟩
theorem gd_Model_inner_0 : decode gb_Model_inner 0 = .ok (.aload_n 0, 1) := by decide +kernel
theorem gd_Model_inner_1 : decode gb_Model_inner 1 = .ok (.iconst 1, 1) := by decide +kernel
theorem gd_Model_inner_2 : decode gb_Model_inner 2 = .ok (.iload_n 1, 1) := by decide +kernel
theorem gd_Model_inner_3 : decode gb_Model_inner 3 = .ok (.iload_n 2, 1) := by decide +kernel
theorem gd_Model_inner_4 : decode gb_Model_inner 4 = .ok (.iconst (-1), 1) := by decide +kernel
theorem gd_Model_inner_5 : decode gb_Model_inner 5 = .ok (.invokevirtual 226, 3) := by decide +kernel
theorem gd_Model_inner_8 : decode gb_Model_inner 8 = .ok (.ireturn, 1) := by decide +kernel
def gf_Model_inner_b0 (F : Nat) (z : gw_Sh)  (u : gw_St) (t0 : Nat) (x1 : Int32) (x2 : Int32) : Option (Int32 × gw_St) :=
  gf_cl (gf_Model_relate F z u t0 (1 : Int32) x1 x2 (-1 : Int32)) fun a3 u1 => some (a3, u1)
def gf_Model_inner (F : Nat) (z : gw_Sh) (u : gw_St) (t0 : Nat) (x1 : Int32) (x2 : Int32) : Option (Int32 × gw_St) := gf_Model_inner_b0 F z  u t0 x1 x2
set_option maxHeartbeats 4000000 in
set_option maxRecDepth 20000 in
theorem gx_Model_inner_b0 {p : Program} {l : Launch} {e : Env} {s : State} {m : MethodId} {args : Array Value} {below : List Frame} {meth : Method} {c : Code} {D : va_G} {cA : Nat → ClassId} {hs : Nat → Nat} {z : gw_Sh} (F : Nat) {r0 : (Int32 × gw_St)} (C : gw_Cx p s m args c gb_Model_inner 3 R_Model D cA) (hr : meth.sig.returnType = (some .int)) (hk : meth.locks = false) (u : gw_St) (t0 : Nat) (x1 : Int32) (x2 : Int32) (o_t0 : gw_ok z t0 9) {H : Heap} {locs : List Loc} {ls : Array Slot} (hW : gw_Wx D cA hs z s u H locs) (hl : lv_has ls 3 [(0, .ref (hs t0)), (1, .int x1), (2, .int x2)]) (h : gf_Model_inner_b0 F z   u t0 x1 x2 = some r0) : gw_Gi p l e gr_Model_inner s m args below meth c D cA hs z r0 H locs ls 0 [] := by
  obtain ⟨hx, hb, hml, hown, hts, hK⟩ := id C
  unfold gf_Model_inner_b0 at h
  refine lv_aload_n hx hb gd_Model_inner_0 rfl (lv_at hl 0 rfl) ?_
  refine lv_iconst (v := 1) hx hb gd_Model_inner_1 (by decide) ?_
  refine lv_iload_n hx hb gd_Model_inner_2 rfl (lv_at hl 1 rfl) ?_
  refine lv_iload_n hx hb gd_Model_inner_3 rfl (lv_at hl 2 rfl) ?_
  refine lv_iconst (v := (-1)) hx hb gd_Model_inner_4 (by decide) ?_
  obtain ⟨a3, u1, d2, h⟩ := gf_cl_ok h
  refine gw_callVi (K := R_Model) (As := [.int (1 : Int32), .int x1, .int x2, .int (-1 : Int32)]) (rest := []) C hW (fun _ h => Or.inr h) hl.1 gm_Model_relate (gc_Model_relate l F o_t0 d2 _) gk_475 gk_476 gk_477 o_t0 (by decide) rfl rfl rfl ⟨Nat.le_of_ble_eq_true rfl, Nat.le_of_ble_eq_true rfl⟩ ⟨Nat.zero_le _, Nat.zero_le _⟩ rfl rfl (Nat.le_of_ble_eq_true rfl) gd_Model_inner_5 (fun H locs hW => ?_)
  obtain rfl := Option.some.inj h
  exact gw_iret C hW hr hk gd_Model_inner_8

set_option maxRecDepth 20000 in
theorem gc_Model_inner (l : Launch) {D : va_G} {cA : Nat → ClassId} {hs : Nat → Nat} {z : gw_Sh} (F : Nat) {u : gw_St} {r0 : (Int32 × gw_St)} {t0 : Nat} {x1 : Int32} {x2 : Int32} (o_t0 : gw_ok z t0 9) (h : gf_Model_inner F z u t0 x1 x2 = some r0) (sz : Nat) : gw_Mi l gy_Model_inner gb_Model_inner 3 (some .int) gr_Model_inner [.ref (hs t0), .int x1, .int x2] D cA hs z u sz r0 := by
  refine gw_enter (by decide) (Nat.le_of_ble_eq_true rfl) ?_
  intro p e s m below meth c ls hsz C hW hr hk _ hl
  subst hsz
  exact gx_Model_inner_b0 F C hr hk u t0 x1 x2 o_t0 hW (lv_sub hl [0, 1, 2] rfl) h
-- GearDeskModel.arbor(II)I
def gy_Model_arbor : MethodName := ⟨R_Model, "arbor", "(II)I"⟩
abbrev gb_Model_arbor : ByteArray := prog_11_method_29_code
theorem gk_480 : Cond.code gy_Model_arbor gb_Model_arbor 3 (some .int) ∈ gt_T := gt_m7 (List.mem_of_getElem? (i := 64) rfl) rfl
def gr_Model_arbor : Room := gw_rm 4 132
theorem gm_Model_arbor : gw_Mth gy_Model_arbor gb_Model_arbor 3 (some .int) 2 := ⟨gk_480, gk_377, ⟨by decide +kernel, by decide +kernel⟩, by decide +kernel⟩
theorem gd_Model_arbor_0 : decode gb_Model_arbor 0 = .ok (.aload_n 0, 1) := by decide +kernel
theorem gd_Model_arbor_1 : decode gb_Model_arbor 1 = .ok (.iconst 2, 1) := by decide +kernel
theorem gd_Model_arbor_2 : decode gb_Model_arbor 2 = .ok (.iload_n 1, 1) := by decide +kernel
theorem gd_Model_arbor_3 : decode gb_Model_arbor 3 = .ok (.iload_n 2, 1) := by decide +kernel
theorem gd_Model_arbor_4 : decode gb_Model_arbor 4 = .ok (.iconst (-1), 1) := by decide +kernel
theorem gd_Model_arbor_5 : decode gb_Model_arbor 5 = .ok (.invokevirtual 226, 3) := by decide +kernel
theorem gd_Model_arbor_8 : decode gb_Model_arbor 8 = .ok (.ireturn, 1) := by decide +kernel
def gf_Model_arbor_b0 (F : Nat) (z : gw_Sh)  (u : gw_St) (t0 : Nat) (x1 : Int32) (x2 : Int32) : Option (Int32 × gw_St) :=
  gf_cl (gf_Model_relate F z u t0 (2 : Int32) x1 x2 (-1 : Int32)) fun a3 u1 => some (a3, u1)
def gf_Model_arbor (F : Nat) (z : gw_Sh) (u : gw_St) (t0 : Nat) (x1 : Int32) (x2 : Int32) : Option (Int32 × gw_St) := gf_Model_arbor_b0 F z  u t0 x1 x2
set_option maxHeartbeats 4000000 in
set_option maxRecDepth 20000 in
theorem gx_Model_arbor_b0 {p : Program} {l : Launch} {e : Env} {s : State} {m : MethodId} {args : Array Value} {below : List Frame} {meth : Method} {c : Code} {D : va_G} {cA : Nat → ClassId} {hs : Nat → Nat} {z : gw_Sh} (F : Nat) {r0 : (Int32 × gw_St)} (C : gw_Cx p s m args c gb_Model_arbor 3 R_Model D cA) (hr : meth.sig.returnType = (some .int)) (hk : meth.locks = false) (u : gw_St) (t0 : Nat) (x1 : Int32) (x2 : Int32) (o_t0 : gw_ok z t0 9) {H : Heap} {locs : List Loc} {ls : Array Slot} (hW : gw_Wx D cA hs z s u H locs) (hl : lv_has ls 3 [(0, .ref (hs t0)), (1, .int x1), (2, .int x2)]) (h : gf_Model_arbor_b0 F z   u t0 x1 x2 = some r0) : gw_Gi p l e gr_Model_arbor s m args below meth c D cA hs z r0 H locs ls 0 [] := by
  obtain ⟨hx, hb, hml, hown, hts, hK⟩ := id C
  unfold gf_Model_arbor_b0 at h
  refine lv_aload_n hx hb gd_Model_arbor_0 rfl (lv_at hl 0 rfl) ?_
  refine lv_iconst (v := 2) hx hb gd_Model_arbor_1 (by decide) ?_
  refine lv_iload_n hx hb gd_Model_arbor_2 rfl (lv_at hl 1 rfl) ?_
  refine lv_iload_n hx hb gd_Model_arbor_3 rfl (lv_at hl 2 rfl) ?_
  refine lv_iconst (v := (-1)) hx hb gd_Model_arbor_4 (by decide) ?_
  obtain ⟨a3, u1, d2, h⟩ := gf_cl_ok h
  refine gw_callVi (K := R_Model) (As := [.int (2 : Int32), .int x1, .int x2, .int (-1 : Int32)]) (rest := []) C hW (fun _ h => Or.inr h) hl.1 gm_Model_relate (gc_Model_relate l F o_t0 d2 _) gk_475 gk_476 gk_477 o_t0 (by decide) rfl rfl rfl ⟨Nat.le_of_ble_eq_true rfl, Nat.le_of_ble_eq_true rfl⟩ ⟨Nat.zero_le _, Nat.zero_le _⟩ rfl rfl (Nat.le_of_ble_eq_true rfl) gd_Model_arbor_5 (fun H locs hW => ?_)
  obtain rfl := Option.some.inj h
  exact gw_iret C hW hr hk gd_Model_arbor_8

set_option maxRecDepth 20000 in
theorem gc_Model_arbor (l : Launch) {D : va_G} {cA : Nat → ClassId} {hs : Nat → Nat} {z : gw_Sh} (F : Nat) {u : gw_St} {r0 : (Int32 × gw_St)} {t0 : Nat} {x1 : Int32} {x2 : Int32} (o_t0 : gw_ok z t0 9) (h : gf_Model_arbor F z u t0 x1 x2 = some r0) (sz : Nat) : gw_Mi l gy_Model_arbor gb_Model_arbor 3 (some .int) gr_Model_arbor [.ref (hs t0), .int x1, .int x2] D cA hs z u sz r0 := by
  refine gw_enter (by decide) (Nat.le_of_ble_eq_true rfl) ?_
  intro p e s m below meth c ls hsz C hW hr hk _ hl
  subst hsz
  exact gx_Model_arbor_b0 F C hr hk u t0 x1 x2 o_t0 hW (lv_sub hl [0, 1, 2] rfl) h
-- GearDeskModel.planet(III)I
def gy_Model_planet : MethodName := ⟨R_Model, "planet", "(III)I"⟩
abbrev gb_Model_planet : ByteArray := prog_11_method_30_code
theorem gk_481 : Cond.code gy_Model_planet gb_Model_planet 4 (some .int) ∈ gt_T := gt_m7 (List.mem_of_getElem? (i := 68) rfl) rfl
def gr_Model_planet : Room := gw_rm 4 132
theorem gm_Model_planet : gw_Mth gy_Model_planet gb_Model_planet 4 (some .int) 3 := ⟨gk_481, gk_377, ⟨by decide +kernel, by decide +kernel⟩, by decide +kernel⟩
theorem gd_Model_planet_0 : decode gb_Model_planet 0 = .ok (.aload_n 0, 1) := by decide +kernel
theorem gd_Model_planet_1 : decode gb_Model_planet 1 = .ok (.iconst 3, 1) := by decide +kernel
theorem gd_Model_planet_2 : decode gb_Model_planet 2 = .ok (.iload_n 1, 1) := by decide +kernel
theorem gd_Model_planet_3 : decode gb_Model_planet 3 = .ok (.iload_n 2, 1) := by decide +kernel
theorem gd_Model_planet_4 : decode gb_Model_planet 4 = .ok (.iload_n 3, 1) := by decide +kernel
theorem gd_Model_planet_5 : decode gb_Model_planet 5 = .ok (.invokevirtual 226, 3) := by decide +kernel
theorem gd_Model_planet_8 : decode gb_Model_planet 8 = .ok (.ireturn, 1) := by decide +kernel
def gf_Model_planet_b0 (F : Nat) (z : gw_Sh)  (u : gw_St) (t0 : Nat) (x1 : Int32) (x2 : Int32) (x3 : Int32) : Option (Int32 × gw_St) :=
  gf_cl (gf_Model_relate F z u t0 (3 : Int32) x1 x2 x3) fun a3 u1 => some (a3, u1)
def gf_Model_planet (F : Nat) (z : gw_Sh) (u : gw_St) (t0 : Nat) (x1 : Int32) (x2 : Int32) (x3 : Int32) : Option (Int32 × gw_St) := gf_Model_planet_b0 F z  u t0 x1 x2 x3
set_option maxHeartbeats 4000000 in
set_option maxRecDepth 20000 in
theorem gx_Model_planet_b0 {p : Program} {l : Launch} {e : Env} {s : State} {m : MethodId} {args : Array Value} {below : List Frame} {meth : Method} {c : Code} {D : va_G} {cA : Nat → ClassId} {hs : Nat → Nat} {z : gw_Sh} (F : Nat) {r0 : (Int32 × gw_St)} (C : gw_Cx p s m args c gb_Model_planet 4 R_Model D cA) (hr : meth.sig.returnType = (some .int)) (hk : meth.locks = false) (u : gw_St) (t0 : Nat) (x1 : Int32) (x2 : Int32) (x3 : Int32) (o_t0 : gw_ok z t0 9) {H : Heap} {locs : List Loc} {ls : Array Slot} (hW : gw_Wx D cA hs z s u H locs) (hl : lv_has ls 4 [(0, .ref (hs t0)), (1, .int x1), (2, .int x2), (3, .int x3)]) (h : gf_Model_planet_b0 F z   u t0 x1 x2 x3 = some r0) : gw_Gi p l e gr_Model_planet s m args below meth c D cA hs z r0 H locs ls 0 [] := by
  obtain ⟨hx, hb, hml, hown, hts, hK⟩ := id C
  unfold gf_Model_planet_b0 at h
  refine lv_aload_n hx hb gd_Model_planet_0 rfl (lv_at hl 0 rfl) ?_
  refine lv_iconst (v := 3) hx hb gd_Model_planet_1 (by decide) ?_
  refine lv_iload_n hx hb gd_Model_planet_2 rfl (lv_at hl 1 rfl) ?_
  refine lv_iload_n hx hb gd_Model_planet_3 rfl (lv_at hl 2 rfl) ?_
  refine lv_iload_n hx hb gd_Model_planet_4 rfl (lv_at hl 3 rfl) ?_
  obtain ⟨a3, u1, d2, h⟩ := gf_cl_ok h
  refine gw_callVi (K := R_Model) (As := [.int (3 : Int32), .int x1, .int x2, .int x3]) (rest := []) C hW (fun _ h => Or.inr h) hl.1 gm_Model_relate (gc_Model_relate l F o_t0 d2 _) gk_475 gk_476 gk_477 o_t0 (by decide) rfl rfl rfl ⟨Nat.le_of_ble_eq_true rfl, Nat.le_of_ble_eq_true rfl⟩ ⟨Nat.zero_le _, Nat.zero_le _⟩ rfl rfl (Nat.le_of_ble_eq_true rfl) gd_Model_planet_5 (fun H locs hW => ?_)
  obtain rfl := Option.some.inj h
  exact gw_iret C hW hr hk gd_Model_planet_8

set_option maxRecDepth 20000 in
theorem gc_Model_planet (l : Launch) {D : va_G} {cA : Nat → ClassId} {hs : Nat → Nat} {z : gw_Sh} (F : Nat) {u : gw_St} {r0 : (Int32 × gw_St)} {t0 : Nat} {x1 : Int32} {x2 : Int32} {x3 : Int32} (o_t0 : gw_ok z t0 9) (h : gf_Model_planet F z u t0 x1 x2 x3 = some r0) (sz : Nat) : gw_Mi l gy_Model_planet gb_Model_planet 4 (some .int) gr_Model_planet [.ref (hs t0), .int x1, .int x2, .int x3] D cA hs z u sz r0 := by
  refine gw_enter (by decide) (Nat.le_of_ble_eq_true rfl) ?_
  intro p e s m below meth c ls hsz C hW hr hk _ hl
  subst hsz
  exact gx_Model_planet_b0 F C hr hk u t0 x1 x2 x3 o_t0 hW (lv_sub hl [0, 1, 2, 3] rfl) h
-- GearDeskModel.remove(I)I
def gy_Model_remove : MethodName := ⟨R_Model, "remove", "(I)I"⟩
abbrev gb_Model_remove : ByteArray := prog_11_method_31_code
theorem gk_482 : Cond.code gy_Model_remove gb_Model_remove 3 (some .int) ∈ gt_T := gt_m7 (List.mem_of_getElem? (i := 72) rfl) rfl
def gr_Model_remove : Room := gw_rm 2 86
theorem gm_Model_remove : gw_Mth gy_Model_remove gb_Model_remove 3 (some .int) 1 := ⟨gk_482, gk_377, ⟨by decide +kernel, by decide +kernel⟩, by decide +kernel⟩
theorem gd_Model_remove_0 : decode gb_Model_remove 0 = .ok (.aload_n 0, 1) := by decide +kernel
theorem gd_Model_remove_1 : decode gb_Model_remove 1 = .ok (.iconst 0, 1) := by decide +kernel
theorem gd_Model_remove_2 : decode gb_Model_remove 2 = .ok (.putfield 112, 3) := by decide +kernel
theorem gd_Model_remove_5 : decode gb_Model_remove 5 = .ok (.iload_n 1, 1) := by decide +kernel
theorem gd_Model_remove_6 : decode gb_Model_remove 6 = .ok (.iconst 0, 1) := by decide +kernel
theorem gd_Model_remove_7 : decode gb_Model_remove 7 = .ok (.aload_n 0, 1) := by decide +kernel
theorem gd_Model_remove_8 : decode gb_Model_remove 8 = .ok (.getfield 223, 3) := by decide +kernel
theorem gd_Model_remove_11 : decode gb_Model_remove 11 = .ok (.iconst 1, 1) := by decide +kernel
theorem gd_Model_remove_12 : decode gb_Model_remove 12 = .ok (.isub, 1) := by decide +kernel
theorem gd_Model_remove_13 : decode gb_Model_remove 13 = .ok (.invokestatic 119, 3) := by decide +kernel
theorem gd_Model_remove_16 : decode gb_Model_remove 16 = .ok (.ifCond .ne 9, 3) := by decide +kernel
theorem gd_Model_remove_19 : decode gb_Model_remove 19 = .ok (.aload_n 0, 1) := by decide +kernel
theorem gd_Model_remove_20 : decode gb_Model_remove 20 = .ok (.iconst 1, 1) := by decide +kernel
theorem gd_Model_remove_21 : decode gb_Model_remove 21 = .ok (.invokevirtual 123, 3) := by decide +kernel
theorem gd_Model_remove_24 : decode gb_Model_remove 24 = .ok (.ireturn, 1) := by decide +kernel
theorem gd_Model_remove_25 : decode gb_Model_remove 25 = .ok (.aload_n 0, 1) := by decide +kernel
theorem gd_Model_remove_26 : decode gb_Model_remove 26 = .ok (.dup, 1) := by decide +kernel
theorem gd_Model_remove_27 : decode gb_Model_remove 27 = .ok (.getfield 223, 3) := by decide +kernel
theorem gd_Model_remove_30 : decode gb_Model_remove 30 = .ok (.iconst 1, 1) := by decide +kernel
theorem gd_Model_remove_31 : decode gb_Model_remove 31 = .ok (.isub, 1) := by decide +kernel
theorem gd_Model_remove_32 : decode gb_Model_remove 32 = .ok (.putfield 223, 3) := by decide +kernel
theorem gd_Model_remove_35 : decode gb_Model_remove 35 = .ok (.iload_n 1, 1) := by decide +kernel
theorem gd_Model_remove_36 : decode gb_Model_remove 36 = .ok (.istore_n 2, 1) := by decide +kernel
theorem gd_Model_remove_37 : decode gb_Model_remove 37 = .ok (.iload_n 2, 1) := by decide +kernel
theorem gd_Model_remove_38 : decode gb_Model_remove 38 = .ok (.aload_n 0, 1) := by decide +kernel
theorem gd_Model_remove_39 : decode gb_Model_remove 39 = .ok (.getfield 223, 3) := by decide +kernel
theorem gd_Model_remove_42 : decode gb_Model_remove 42 = .ok (.if_icmp .ge 65, 3) := by decide +kernel
theorem gd_Model_remove_45 : decode gb_Model_remove 45 = .ok (.aload_n 0, 1) := by decide +kernel
theorem gd_Model_remove_46 : decode gb_Model_remove 46 = .ok (.getfield 27, 3) := by decide +kernel
theorem gd_Model_remove_49 : decode gb_Model_remove 49 = .ok (.iload_n 2, 1) := by decide +kernel
theorem gd_Model_remove_50 : decode gb_Model_remove 50 = .ok (.aload_n 0, 1) := by decide +kernel
theorem gd_Model_remove_51 : decode gb_Model_remove 51 = .ok (.getfield 27, 3) := by decide +kernel
theorem gd_Model_remove_54 : decode gb_Model_remove 54 = .ok (.iload_n 2, 1) := by decide +kernel
theorem gd_Model_remove_55 : decode gb_Model_remove 55 = .ok (.iconst 1, 1) := by decide +kernel
theorem gd_Model_remove_56 : decode gb_Model_remove 56 = .ok (.iadd, 1) := by decide +kernel
theorem gd_Model_remove_57 : decode gb_Model_remove 57 = .ok (.iaload, 1) := by decide +kernel
theorem gd_Model_remove_58 : decode gb_Model_remove 58 = .ok (.iastore, 1) := by decide +kernel
theorem gd_Model_remove_59 : decode gb_Model_remove 59 = .ok (.aload_n 0, 1) := by decide +kernel
theorem gd_Model_remove_60 : decode gb_Model_remove 60 = .ok (.getfield 30, 3) := by decide +kernel
theorem gd_Model_remove_63 : decode gb_Model_remove 63 = .ok (.iload_n 2, 1) := by decide +kernel
theorem gd_Model_remove_64 : decode gb_Model_remove 64 = .ok (.aload_n 0, 1) := by decide +kernel
theorem gd_Model_remove_65 : decode gb_Model_remove 65 = .ok (.getfield 30, 3) := by decide +kernel
theorem gd_Model_remove_68 : decode gb_Model_remove 68 = .ok (.iload_n 2, 1) := by decide +kernel
theorem gd_Model_remove_69 : decode gb_Model_remove 69 = .ok (.iconst 1, 1) := by decide +kernel
theorem gd_Model_remove_70 : decode gb_Model_remove 70 = .ok (.iadd, 1) := by decide +kernel
theorem gd_Model_remove_71 : decode gb_Model_remove 71 = .ok (.iaload, 1) := by decide +kernel
theorem gd_Model_remove_72 : decode gb_Model_remove 72 = .ok (.iastore, 1) := by decide +kernel
theorem gd_Model_remove_73 : decode gb_Model_remove 73 = .ok (.aload_n 0, 1) := by decide +kernel
theorem gd_Model_remove_74 : decode gb_Model_remove 74 = .ok (.getfield 33, 3) := by decide +kernel
theorem gd_Model_remove_77 : decode gb_Model_remove 77 = .ok (.iload_n 2, 1) := by decide +kernel
theorem gd_Model_remove_78 : decode gb_Model_remove 78 = .ok (.aload_n 0, 1) := by decide +kernel
theorem gd_Model_remove_79 : decode gb_Model_remove 79 = .ok (.getfield 33, 3) := by decide +kernel
theorem gd_Model_remove_82 : decode gb_Model_remove 82 = .ok (.iload_n 2, 1) := by decide +kernel
theorem gd_Model_remove_83 : decode gb_Model_remove 83 = .ok (.iconst 1, 1) := by decide +kernel
theorem gd_Model_remove_84 : decode gb_Model_remove 84 = .ok (.iadd, 1) := by decide +kernel
theorem gd_Model_remove_85 : decode gb_Model_remove 85 = .ok (.iaload, 1) := by decide +kernel
theorem gd_Model_remove_86 : decode gb_Model_remove 86 = .ok (.iastore, 1) := by decide +kernel
theorem gd_Model_remove_87 : decode gb_Model_remove 87 = .ok (.aload_n 0, 1) := by decide +kernel
theorem gd_Model_remove_88 : decode gb_Model_remove 88 = .ok (.getfield 36, 3) := by decide +kernel
theorem gd_Model_remove_91 : decode gb_Model_remove 91 = .ok (.iload_n 2, 1) := by decide +kernel
theorem gd_Model_remove_92 : decode gb_Model_remove 92 = .ok (.aload_n 0, 1) := by decide +kernel
theorem gd_Model_remove_93 : decode gb_Model_remove 93 = .ok (.getfield 36, 3) := by decide +kernel
theorem gd_Model_remove_96 : decode gb_Model_remove 96 = .ok (.iload_n 2, 1) := by decide +kernel
theorem gd_Model_remove_97 : decode gb_Model_remove 97 = .ok (.iconst 1, 1) := by decide +kernel
theorem gd_Model_remove_98 : decode gb_Model_remove 98 = .ok (.iadd, 1) := by decide +kernel
theorem gd_Model_remove_99 : decode gb_Model_remove 99 = .ok (.iaload, 1) := by decide +kernel
theorem gd_Model_remove_100 : decode gb_Model_remove 100 = .ok (.iastore, 1) := by decide +kernel
theorem gd_Model_remove_101 : decode gb_Model_remove 101 = .ok (.iinc 2 1, 3) := by decide +kernel
theorem gd_Model_remove_104 : decode gb_Model_remove 104 = .ok (.goto (-67), 3) := by decide +kernel
theorem gd_Model_remove_107 : decode gb_Model_remove 107 = .ok (.aload_n 0, 1) := by decide +kernel
theorem gd_Model_remove_108 : decode gb_Model_remove 108 = .ok (.getfield 223, 3) := by decide +kernel
theorem gd_Model_remove_111 : decode gb_Model_remove 111 = .ok (.ireturn, 1) := by decide +kernel
def gf_Model_remove_S37 (F : Nat) (z : gw_Sh)  (rc_37 : gw_St → Nat → Int32 → Option (Int32 × gw_St)) (u : gw_St) (t0 : Nat) (x2 : Int32) : Option (Int32 × gw_St) :=
  if (u.1 t0 19) ≤ x2 then (some ((u.1 t0 19), u)) else (gf_nn (u.2.2 t0 22) fun q2 => gf_nn (u.2.2 t0 22) fun q4 => if ((x2 + (1 : Int32)) < 0 ∨ z.2.2 q4 ≤ ((x2 + (1 : Int32))).toNatClampNeg) then none else if (x2 < 0 ∨ z.2.2 q2 ≤ (x2).toNatClampNeg) then none else gf_nm (gw_wi u q2 (x2).toNatClampNeg (u.1 q4 ((x2 + (1 : Int32))).toNatClampNeg)) fun u8 => gf_nn (u8.2.2 t0 23) fun q10 => gf_nn (u8.2.2 t0 23) fun q12 => if ((x2 + (1 : Int32)) < 0 ∨ z.2.2 q12 ≤ ((x2 + (1 : Int32))).toNatClampNeg) then none else if (x2 < 0 ∨ z.2.2 q10 ≤ (x2).toNatClampNeg) then none else gf_nm (gw_wi u8 q10 (x2).toNatClampNeg (u8.1 q12 ((x2 + (1 : Int32))).toNatClampNeg)) fun u16 => gf_nn (u16.2.2 t0 24) fun q18 => gf_nn (u16.2.2 t0 24) fun q20 => if ((x2 + (1 : Int32)) < 0 ∨ z.2.2 q20 ≤ ((x2 + (1 : Int32))).toNatClampNeg) then none else if (x2 < 0 ∨ z.2.2 q18 ≤ (x2).toNatClampNeg) then none else gf_nm (gw_wi u16 q18 (x2).toNatClampNeg (u16.1 q20 ((x2 + (1 : Int32))).toNatClampNeg)) fun u24 => gf_nn (u24.2.2 t0 25) fun q26 => gf_nn (u24.2.2 t0 25) fun q28 => if ((x2 + (1 : Int32)) < 0 ∨ z.2.2 q28 ≤ ((x2 + (1 : Int32))).toNatClampNeg) then none else if (x2 < 0 ∨ z.2.2 q26 ≤ (x2).toNatClampNeg) then none else gf_nm (gw_wi u24 q26 (x2).toNatClampNeg (u24.1 q28 ((x2 + (1 : Int32))).toNatClampNeg)) fun u32 => gf_nm (x2 + 1) fun a34 => rc_37 u32 t0 a34)
def gf_Model_remove_L37 (F : Nat) (z : gw_Sh)  : Nat → gw_St → Nat → Int32 → Option (Int32 × gw_St)
  | 0 => fun _ _ _ => none
  | n + 1 => fun u t0 x2 => gf_Model_remove_S37 F z  (gf_Model_remove_L37 F z  n) u t0 x2
def gf_Model_remove_b0 (F : Nat) (z : gw_Sh)  (u : gw_St) (t0 : Nat) (x1 : Int32) : Option (Int32 × gw_St) :=
  gf_nm (gw_wi u t0 0 (0 : Int32)) fun u36 => gf_cl (gf_Model_within F z u36 x1 (0 : Int32) ((u36.1 t0 19) - (1 : Int32))) fun a40 u38 => if a40 = 0 then (gf_cl (gf_Model_fail F z u38 t0 (1 : Int32)) fun a46 u44 => some (a46, u44)) else (gf_nm (gw_wi u38 t0 19 ((u38.1 t0 19) - (1 : Int32))) fun u42 => gf_Model_remove_L37 F z  F u42 t0 x1)
def gf_Model_remove (F : Nat) (z : gw_Sh) (u : gw_St) (t0 : Nat) (x1 : Int32) : Option (Int32 × gw_St) := gf_Model_remove_b0 F z  u t0 x1
set_option maxHeartbeats 4000000 in
set_option maxRecDepth 20000 in
theorem gx_Model_remove_S37 {p : Program} {l : Launch} {e : Env} {s : State} {m : MethodId} {args : Array Value} {below : List Frame} {meth : Method} {c : Code} {D : va_G} {cA : Nat → ClassId} {hs : Nat → Nat} {z : gw_Sh} (F : Nat) {r0 : (Int32 × gw_St)} (C : gw_Cx p s m args c gb_Model_remove 3 R_Model D cA) (hr : meth.sig.returnType = (some .int)) (hk : meth.locks = false) {rc_37 : gw_St → Nat → Int32 → Option (Int32 × gw_St)} (k_37 : ∀ (u : gw_St) (t0 : Nat) (x2 : Int32) (H : Heap) (locs : List Loc) (ls : Array Slot), gw_ok z t0 9 → gw_Wx D cA hs z s u H locs → lv_has ls 3 [(0, .ref (hs t0)), (2, .int x2)] → rc_37 u t0 x2 = some r0 → gw_Gi p l e gr_Model_remove s m args below meth c D cA hs z r0 H locs ls 37 []) (u : gw_St) (t0 : Nat) (x2 : Int32) (o_t0 : gw_ok z t0 9) {H : Heap} {locs : List Loc} {ls : Array Slot} (hW : gw_Wx D cA hs z s u H locs) (hl : lv_has ls 3 [(0, .ref (hs t0)), (2, .int x2)]) (h : gf_Model_remove_S37 F z  rc_37 u t0 x2 = some r0) : gw_Gi p l e gr_Model_remove s m args below meth c D cA hs z r0 H locs ls 37 [] := by
  obtain ⟨hx, hb, hml, hown, hts, hK⟩ := id C
  unfold gf_Model_remove_S37 at h
  refine lv_iload_n hx hb gd_Model_remove_37 rfl (lv_at hl 1 rfl) ?_
  refine lv_aload_n hx hb gd_Model_remove_38 rfl (lv_at hl 0 rfl) ?_
  refine gw_geti (k := 19) (ref := R_Model) C hW o_t0 (by decide) rfl gi_Model rfl (by decide) rfl rfl gk_466 gd_Model_remove_39 ?_
  refine lv_icmp_ge (tgt := 107) hx hb gd_Model_remove_42 (by decide) (fun c1 => ?_) (fun c1 => ?_)
  · have h := gf_t c1 h
    refine lv_aload_n hx hb gd_Model_remove_107 rfl (lv_at hl 0 rfl) ?_
    refine gw_geti (k := 19) (ref := R_Model) C hW o_t0 (by decide) rfl gi_Model rfl (by decide) rfl rfl gk_466 gd_Model_remove_108 ?_
    obtain rfl := Option.some.inj h
    exact gw_iret C hW hr hk gd_Model_remove_111
  · have h := gf_f c1 h
    refine lv_aload_n hx hb gd_Model_remove_45 rfl (lv_at hl 0 rfl) ?_
    obtain ⟨q2, e3, h⟩ := gf_nn_ok h
    refine gw_getr (k := 22) (ty := 10) (ref := R_Model) C hW o_t0 (by decide) rfl gi_Model rfl (by decide) rfl rfl gk_467 gd_Model_remove_46 e3 ?_
    have o_q2 := hW.ref (d := 10) o_t0 e3 rfl
    refine lv_iload_n hx hb gd_Model_remove_49 rfl (lv_at hl 1 rfl) ?_
    refine lv_aload_n hx hb gd_Model_remove_50 rfl (lv_at hl 0 rfl) ?_
    obtain ⟨q4, e5, h⟩ := gf_nn_ok h
    refine gw_getr (k := 22) (ty := 10) (ref := R_Model) C hW o_t0 (by decide) rfl gi_Model rfl (by decide) rfl rfl gk_467 gd_Model_remove_51 e5 ?_
    have o_q4 := hW.ref (d := 10) o_t0 e5 rfl
    refine lv_iload_n hx hb gd_Model_remove_54 rfl (lv_at hl 1 rfl) ?_
    refine lv_iconst (v := 1) hx hb gd_Model_remove_55 (by decide) ?_
    refine lv_iadd hx hb gd_Model_remove_56 ?_
    obtain ⟨g6, h⟩ := gf_if_ok h
    refine gw_iald C hW o_q4 g6 gd_Model_remove_57 ?_
    obtain ⟨g7, h⟩ := gf_if_ok h
    refine gw_iast C hW o_q2 g7 gd_Model_remove_58 (fun u8 H locs e9 hW => ?_)
    have h := gf_nm_ok e9 h
    refine lv_aload_n hx hb gd_Model_remove_59 rfl (lv_at hl 0 rfl) ?_
    obtain ⟨q10, e11, h⟩ := gf_nn_ok h
    refine gw_getr (k := 23) (ty := 10) (ref := R_Model) C hW o_t0 (by decide) rfl gi_Model rfl (by decide) rfl rfl gk_468 gd_Model_remove_60 e11 ?_
    have o_q10 := hW.ref (d := 10) o_t0 e11 rfl
    refine lv_iload_n hx hb gd_Model_remove_63 rfl (lv_at hl 1 rfl) ?_
    refine lv_aload_n hx hb gd_Model_remove_64 rfl (lv_at hl 0 rfl) ?_
    obtain ⟨q12, e13, h⟩ := gf_nn_ok h
    refine gw_getr (k := 23) (ty := 10) (ref := R_Model) C hW o_t0 (by decide) rfl gi_Model rfl (by decide) rfl rfl gk_468 gd_Model_remove_65 e13 ?_
    have o_q12 := hW.ref (d := 10) o_t0 e13 rfl
    refine lv_iload_n hx hb gd_Model_remove_68 rfl (lv_at hl 1 rfl) ?_
    refine lv_iconst (v := 1) hx hb gd_Model_remove_69 (by decide) ?_
    refine lv_iadd hx hb gd_Model_remove_70 ?_
    obtain ⟨g14, h⟩ := gf_if_ok h
    refine gw_iald C hW o_q12 g14 gd_Model_remove_71 ?_
    obtain ⟨g15, h⟩ := gf_if_ok h
    refine gw_iast C hW o_q10 g15 gd_Model_remove_72 (fun u16 H locs e17 hW => ?_)
    have h := gf_nm_ok e17 h
    refine lv_aload_n hx hb gd_Model_remove_73 rfl (lv_at hl 0 rfl) ?_
    obtain ⟨q18, e19, h⟩ := gf_nn_ok h
    refine gw_getr (k := 24) (ty := 10) (ref := R_Model) C hW o_t0 (by decide) rfl gi_Model rfl (by decide) rfl rfl gk_469 gd_Model_remove_74 e19 ?_
    have o_q18 := hW.ref (d := 10) o_t0 e19 rfl
    refine lv_iload_n hx hb gd_Model_remove_77 rfl (lv_at hl 1 rfl) ?_
    refine lv_aload_n hx hb gd_Model_remove_78 rfl (lv_at hl 0 rfl) ?_
    obtain ⟨q20, e21, h⟩ := gf_nn_ok h
    refine gw_getr (k := 24) (ty := 10) (ref := R_Model) C hW o_t0 (by decide) rfl gi_Model rfl (by decide) rfl rfl gk_469 gd_Model_remove_79 e21 ?_
    have o_q20 := hW.ref (d := 10) o_t0 e21 rfl
    refine lv_iload_n hx hb gd_Model_remove_82 rfl (lv_at hl 1 rfl) ?_
    refine lv_iconst (v := 1) hx hb gd_Model_remove_83 (by decide) ?_
    refine lv_iadd hx hb gd_Model_remove_84 ?_
    obtain ⟨g22, h⟩ := gf_if_ok h
    refine gw_iald C hW o_q20 g22 gd_Model_remove_85 ?_
    obtain ⟨g23, h⟩ := gf_if_ok h
    refine gw_iast C hW o_q18 g23 gd_Model_remove_86 (fun u24 H locs e25 hW => ?_)
    have h := gf_nm_ok e25 h
    refine lv_aload_n hx hb gd_Model_remove_87 rfl (lv_at hl 0 rfl) ?_
    obtain ⟨q26, e27, h⟩ := gf_nn_ok h
    refine gw_getr (k := 25) (ty := 10) (ref := R_Model) C hW o_t0 (by decide) rfl gi_Model rfl (by decide) rfl rfl gk_470 gd_Model_remove_88 e27 ?_
    have o_q26 := hW.ref (d := 10) o_t0 e27 rfl
    refine lv_iload_n hx hb gd_Model_remove_91 rfl (lv_at hl 1 rfl) ?_
    refine lv_aload_n hx hb gd_Model_remove_92 rfl (lv_at hl 0 rfl) ?_
    obtain ⟨q28, e29, h⟩ := gf_nn_ok h
    refine gw_getr (k := 25) (ty := 10) (ref := R_Model) C hW o_t0 (by decide) rfl gi_Model rfl (by decide) rfl rfl gk_470 gd_Model_remove_93 e29 ?_
    have o_q28 := hW.ref (d := 10) o_t0 e29 rfl
    refine lv_iload_n hx hb gd_Model_remove_96 rfl (lv_at hl 1 rfl) ?_
    refine lv_iconst (v := 1) hx hb gd_Model_remove_97 (by decide) ?_
    refine lv_iadd hx hb gd_Model_remove_98 ?_
    obtain ⟨g30, h⟩ := gf_if_ok h
    refine gw_iald C hW o_q28 g30 gd_Model_remove_99 ?_
    obtain ⟨g31, h⟩ := gf_if_ok h
    refine gw_iast C hW o_q26 g31 gd_Model_remove_100 (fun u32 H locs e33 hW => ?_)
    have h := gf_nm_ok e33 h
    obtain ⟨a34, e35⟩ : ∃ y : Int32, y = x2 + 1 := ⟨_, rfl⟩
    have h := gf_nm_ok e35 h
    refine lv_iinc (v := a34) (lv' := [(2, .int a34), (0, .ref (hs t0))]) hx hb gd_Model_remove_101 hl (k := 1) rfl (by rw [e35]; rfl) (by decide) rfl (fun ls hl => ?_)
    refine lv_goto (tgt := 37) hx hb gd_Model_remove_104 (by decide) ?_
    exact k_37 u32 t0 a34 _ _ _ o_t0 hW (lv_sub hl [1, 0] rfl) h
set_option maxHeartbeats 4000000 in
set_option maxRecDepth 20000 in
theorem gx_Model_remove_L37 {p : Program} {l : Launch} {e : Env} {s : State} {m : MethodId} {args : Array Value} {below : List Frame} {meth : Method} {c : Code} {D : va_G} {cA : Nat → ClassId} {hs : Nat → Nat} {z : gw_Sh} (F : Nat) {r0 : (Int32 × gw_St)} (C : gw_Cx p s m args c gb_Model_remove 3 R_Model D cA) (hr : meth.sig.returnType = (some .int)) (hk : meth.locks = false) : ∀ (n : Nat), ∀ (u : gw_St) (t0 : Nat) (x2 : Int32) (H : Heap) (locs : List Loc) (ls : Array Slot), gw_ok z t0 9 → gw_Wx D cA hs z s u H locs → lv_has ls 3 [(0, .ref (hs t0)), (2, .int x2)] → gf_Model_remove_L37 F z  n u t0 x2 = some r0 → gw_Gi p l e gr_Model_remove s m args below meth c D cA hs z r0 H locs ls 37 [] := by
  intro n
  induction n with
  | zero =>
    intro u t0 x2 H locs ls o_t0 hW hl h
    cases h
  | succ n ih =>
    intro u t0 x2 H locs ls o_t0 hW hl h
    exact gx_Model_remove_S37 F C hr hk  ih u t0 x2 o_t0 hW hl h

set_option maxHeartbeats 4000000 in
set_option maxRecDepth 20000 in
theorem gx_Model_remove_b0 {p : Program} {l : Launch} {e : Env} {s : State} {m : MethodId} {args : Array Value} {below : List Frame} {meth : Method} {c : Code} {D : va_G} {cA : Nat → ClassId} {hs : Nat → Nat} {z : gw_Sh} (F : Nat) {r0 : (Int32 × gw_St)} (C : gw_Cx p s m args c gb_Model_remove 3 R_Model D cA) (hr : meth.sig.returnType = (some .int)) (hk : meth.locks = false) (u : gw_St) (t0 : Nat) (x1 : Int32) (o_t0 : gw_ok z t0 9) {H : Heap} {locs : List Loc} {ls : Array Slot} (hW : gw_Wx D cA hs z s u H locs) (hl : lv_has ls 3 [(0, .ref (hs t0)), (1, .int x1)]) (h : gf_Model_remove_b0 F z   u t0 x1 = some r0) : gw_Gi p l e gr_Model_remove s m args below meth c D cA hs z r0 H locs ls 0 [] := by
  obtain ⟨hx, hb, hml, hown, hts, hK⟩ := id C
  unfold gf_Model_remove_b0 at h
  refine lv_aload_n hx hb gd_Model_remove_0 rfl (lv_at hl 0 rfl) ?_
  refine lv_iconst (v := 0) hx hb gd_Model_remove_1 (by decide) ?_
  refine gw_puti (k := 0) (ref := R_Model) (fty := .int) C hW o_t0 (by decide) rfl gi_Model rfl (by decide) rfl rfl gk_376 tf_Model tf_Model_ok nm_Model rfl rfl rfl rfl gd_Model_remove_2 (fun u36 H locs e37 hW => ?_)
  have h := gf_nm_ok e37 h
  refine lv_iload_n hx hb gd_Model_remove_5 rfl (lv_at hl 1 rfl) ?_
  refine lv_iconst (v := 0) hx hb gd_Model_remove_6 (by decide) ?_
  refine lv_aload_n hx hb gd_Model_remove_7 rfl (lv_at hl 0 rfl) ?_
  refine gw_geti (k := 19) (ref := R_Model) C hW o_t0 (by decide) rfl gi_Model rfl (by decide) rfl rfl gk_466 gd_Model_remove_8 ?_
  refine lv_iconst (v := 1) hx hb gd_Model_remove_11 (by decide) ?_
  refine lv_isub hx hb gd_Model_remove_12 ?_
  obtain ⟨a40, u38, d39, h⟩ := gf_cl_ok h
  refine gw_callSi (As := [.int x1, .int (0 : Int32), .int ((u36.1 t0 19) - (1 : Int32))]) (rest := []) C hW (fun _ h => Or.inr h) hl.1 gm_Model_within (gc_Model_within l F  d39 _) gk_398 gk_399 rfl rfl ⟨Nat.le_of_ble_eq_true rfl, Nat.le_of_ble_eq_true rfl⟩ ⟨Nat.zero_le _, Nat.zero_le _⟩ rfl rfl (Nat.le_of_ble_eq_true rfl) gd_Model_remove_13 (fun H locs hW => ?_)
  refine lv_if_ne (tgt := 25) hx hb gd_Model_remove_16 (by decide) (fun c41 => ?_) (fun c41 => ?_)
  · have h := gf_f c41 h
    refine lv_aload_n hx hb gd_Model_remove_25 rfl (lv_at hl 0 rfl) ?_
    refine lv_dup hx hb gd_Model_remove_26 rfl ?_
    refine gw_geti (k := 19) (ref := R_Model) C hW o_t0 (by decide) rfl gi_Model rfl (by decide) rfl rfl gk_466 gd_Model_remove_27 ?_
    refine lv_iconst (v := 1) hx hb gd_Model_remove_30 (by decide) ?_
    refine lv_isub hx hb gd_Model_remove_31 ?_
    refine gw_puti (k := 19) (ref := R_Model) (fty := .int) C hW o_t0 (by decide) rfl gi_Model rfl (by decide) rfl rfl gk_466 tf_Model tf_Model_ok nm_Model rfl rfl rfl rfl gd_Model_remove_32 (fun u42 H locs e43 hW => ?_)
    have h := gf_nm_ok e43 h
    refine lv_iload_n hx hb gd_Model_remove_35 rfl (lv_at hl 1 rfl) ?_
    refine lv_istore_n (lv' := [(2, .int x1), (0, .ref (hs t0)), (1, .int x1)]) hx hb gd_Model_remove_36 rfl hl (by decide) rfl (fun ls hl => ?_)
    exact gx_Model_remove_L37 F C hr hk  F u42 t0 x1 _ _ _ o_t0 hW (lv_sub hl [1, 0] rfl) h
  · have h := gf_t c41 h
    refine lv_aload_n hx hb gd_Model_remove_19 rfl (lv_at hl 0 rfl) ?_
    refine lv_iconst (v := 1) hx hb gd_Model_remove_20 (by decide) ?_
    obtain ⟨a46, u44, d45, h⟩ := gf_cl_ok h
    refine gw_callVi (K := R_Model) (As := [.int (1 : Int32)]) (rest := []) C hW (fun _ h => Or.inr h) hl.1 gm_Model_fail (gc_Model_fail l F o_t0 d45 _) gk_385 gk_386 gk_387 o_t0 (by decide) rfl rfl rfl ⟨Nat.le_of_ble_eq_true rfl, Nat.le_of_ble_eq_true rfl⟩ ⟨Nat.zero_le _, Nat.zero_le _⟩ rfl rfl (Nat.le_of_ble_eq_true rfl) gd_Model_remove_21 (fun H locs hW => ?_)
    obtain rfl := Option.some.inj h
    exact gw_iret C hW hr hk gd_Model_remove_24

set_option maxRecDepth 20000 in
theorem gc_Model_remove (l : Launch) {D : va_G} {cA : Nat → ClassId} {hs : Nat → Nat} {z : gw_Sh} (F : Nat) {u : gw_St} {r0 : (Int32 × gw_St)} {t0 : Nat} {x1 : Int32} (o_t0 : gw_ok z t0 9) (h : gf_Model_remove F z u t0 x1 = some r0) (sz : Nat) : gw_Mi l gy_Model_remove gb_Model_remove 3 (some .int) gr_Model_remove [.ref (hs t0), .int x1] D cA hs z u sz r0 := by
  refine gw_enter (by decide) (Nat.le_of_ble_eq_true rfl) ?_
  intro p e s m below meth c ls hsz C hW hr hk _ hl
  subst hsz
  exact gx_Model_remove_b0 F C hr hk u t0 x1 o_t0 hW (lv_sub hl [0, 1] rfl) h
-- GearDeskModel.relation(II)I
def gy_Model_relation : MethodName := ⟨R_Model, "relation", "(II)I"⟩
abbrev gb_Model_relation : ByteArray := prog_11_method_32_code
theorem gk_483 : Cond.code gy_Model_relation gb_Model_relation 3 (some .int) ∈ gt_T := gt_m7 (List.mem_of_getElem? (i := 76) rfl) rfl
def gr_Model_relation : Room := gw_rm 2 86
theorem gm_Model_relation : gw_Mth gy_Model_relation gb_Model_relation 3 (some .int) 2 := ⟨gk_483, gk_377, ⟨by decide +kernel, by decide +kernel⟩, by decide +kernel⟩
theorem gd_Model_relation_0 : decode gb_Model_relation 0 = .ok (.aload_n 0, 1) := by decide +kernel
theorem gd_Model_relation_1 : decode gb_Model_relation 1 = .ok (.iconst 0, 1) := by decide +kernel
theorem gd_Model_relation_2 : decode gb_Model_relation 2 = .ok (.putfield 112, 3) := by decide +kernel
theorem gd_Model_relation_5 : decode gb_Model_relation 5 = .ok (.iload_n 1, 1) := by decide +kernel
theorem gd_Model_relation_6 : decode gb_Model_relation 6 = .ok (.iconst 0, 1) := by decide +kernel
theorem gd_Model_relation_7 : decode gb_Model_relation 7 = .ok (.aload_n 0, 1) := by decide +kernel
theorem gd_Model_relation_8 : decode gb_Model_relation 8 = .ok (.getfield 223, 3) := by decide +kernel
theorem gd_Model_relation_11 : decode gb_Model_relation 11 = .ok (.iconst 1, 1) := by decide +kernel
theorem gd_Model_relation_12 : decode gb_Model_relation 12 = .ok (.isub, 1) := by decide +kernel
theorem gd_Model_relation_13 : decode gb_Model_relation 13 = .ok (.invokestatic 119, 3) := by decide +kernel
theorem gd_Model_relation_16 : decode gb_Model_relation 16 = .ok (.ifCond .eq 12, 3) := by decide +kernel
theorem gd_Model_relation_19 : decode gb_Model_relation 19 = .ok (.iload_n 2, 1) := by decide +kernel
theorem gd_Model_relation_20 : decode gb_Model_relation 20 = .ok (.iconst 0, 1) := by decide +kernel
theorem gd_Model_relation_21 : decode gb_Model_relation 21 = .ok (.iconst 3, 1) := by decide +kernel
theorem gd_Model_relation_22 : decode gb_Model_relation 22 = .ok (.invokestatic 119, 3) := by decide +kernel
theorem gd_Model_relation_25 : decode gb_Model_relation 25 = .ok (.ifCond .ne 9, 3) := by decide +kernel
theorem gd_Model_relation_28 : decode gb_Model_relation 28 = .ok (.aload_n 0, 1) := by decide +kernel
theorem gd_Model_relation_29 : decode gb_Model_relation 29 = .ok (.iconst 1, 1) := by decide +kernel
theorem gd_Model_relation_30 : decode gb_Model_relation 30 = .ok (.invokevirtual 123, 3) := by decide +kernel
theorem gd_Model_relation_33 : decode gb_Model_relation 33 = .ok (.ireturn, 1) := by decide +kernel
theorem gd_Model_relation_34 : decode gb_Model_relation 34 = .ok (.iload_n 2, 1) := by decide +kernel
theorem gd_Model_relation_35 : decode gb_Model_relation 35 = .ok (.ifCond .ne 12, 3) := by decide +kernel
theorem gd_Model_relation_38 : decode gb_Model_relation 38 = .ok (.aload_n 0, 1) := by decide +kernel
theorem gd_Model_relation_39 : decode gb_Model_relation 39 = .ok (.getfield 27, 3) := by decide +kernel
theorem gd_Model_relation_42 : decode gb_Model_relation 42 = .ok (.iload_n 1, 1) := by decide +kernel
theorem gd_Model_relation_43 : decode gb_Model_relation 43 = .ok (.iaload, 1) := by decide +kernel
theorem gd_Model_relation_44 : decode gb_Model_relation 44 = .ok (.goto 37, 3) := by decide +kernel
theorem gd_Model_relation_47 : decode gb_Model_relation 47 = .ok (.iload_n 2, 1) := by decide +kernel
theorem gd_Model_relation_48 : decode gb_Model_relation 48 = .ok (.iconst 1, 1) := by decide +kernel
theorem gd_Model_relation_49 : decode gb_Model_relation 49 = .ok (.if_icmp .ne 12, 3) := by decide +kernel
theorem gd_Model_relation_52 : decode gb_Model_relation 52 = .ok (.aload_n 0, 1) := by decide +kernel
theorem gd_Model_relation_53 : decode gb_Model_relation 53 = .ok (.getfield 30, 3) := by decide +kernel
theorem gd_Model_relation_56 : decode gb_Model_relation 56 = .ok (.iload_n 1, 1) := by decide +kernel
theorem gd_Model_relation_57 : decode gb_Model_relation 57 = .ok (.iaload, 1) := by decide +kernel
theorem gd_Model_relation_58 : decode gb_Model_relation 58 = .ok (.goto 23, 3) := by decide +kernel
theorem gd_Model_relation_61 : decode gb_Model_relation 61 = .ok (.iload_n 2, 1) := by decide +kernel
theorem gd_Model_relation_62 : decode gb_Model_relation 62 = .ok (.iconst 2, 1) := by decide +kernel
theorem gd_Model_relation_63 : decode gb_Model_relation 63 = .ok (.if_icmp .ne 12, 3) := by decide +kernel
theorem gd_Model_relation_66 : decode gb_Model_relation 66 = .ok (.aload_n 0, 1) := by decide +kernel
theorem gd_Model_relation_67 : decode gb_Model_relation 67 = .ok (.getfield 33, 3) := by decide +kernel
theorem gd_Model_relation_70 : decode gb_Model_relation 70 = .ok (.iload_n 1, 1) := by decide +kernel
theorem gd_Model_relation_71 : decode gb_Model_relation 71 = .ok (.iaload, 1) := by decide +kernel
theorem gd_Model_relation_72 : decode gb_Model_relation 72 = .ok (.goto 9, 3) := by decide +kernel
theorem gd_Model_relation_75 : decode gb_Model_relation 75 = .ok (.aload_n 0, 1) := by decide +kernel
theorem gd_Model_relation_76 : decode gb_Model_relation 76 = .ok (.getfield 36, 3) := by decide +kernel
theorem gd_Model_relation_79 : decode gb_Model_relation 79 = .ok (.iload_n 1, 1) := by decide +kernel
theorem gd_Model_relation_80 : decode gb_Model_relation 80 = .ok (.iaload, 1) := by decide +kernel
theorem gd_Model_relation_81 : decode gb_Model_relation 81 = .ok (.ireturn, 1) := by decide +kernel
def gf_Model_relation_b28 (F : Nat) (z : gw_Sh)  (u : gw_St) (t0 : Nat) : Option (Int32 × gw_St) :=
  gf_cl (gf_Model_fail F z u t0 (1 : Int32)) fun a3 u1 => some (a3, u1)
def gf_Model_relation_b81 (F : Nat) (z : gw_Sh)  (u : gw_St) (sx0 : Int32) : Option (Int32 × gw_St) :=
  some (sx0, u)
def gf_Model_relation_b0 (F : Nat) (z : gw_Sh)  (u : gw_St) (t0 : Nat) (x1 : Int32) (x2 : Int32) : Option (Int32 × gw_St) :=
  gf_nm (gw_wi u t0 0 (0 : Int32)) fun u4 => gf_cl (gf_Model_within F z u4 x1 (0 : Int32) ((u4.1 t0 19) - (1 : Int32))) fun a8 u6 => if a8 = 0 then (gf_Model_relation_b28 F z  u6 t0) else (gf_cl (gf_Model_within F z u6 x2 (0 : Int32) (3 : Int32)) fun a12 u10 => if a12 = 0 then (gf_Model_relation_b28 F z  u10 t0) else (if x2 = 0 then (gf_nn (u10.2.2 t0 22) fun q26 => if (x1 < 0 ∨ z.2.2 q26 ≤ (x1).toNatClampNeg) then none else gf_Model_relation_b81 F z  u10 (u10.1 q26 (x1).toNatClampNeg)) else (if x2 = (1 : Int32) then (gf_nn (u10.2.2 t0 23) fun q23 => if (x1 < 0 ∨ z.2.2 q23 ≤ (x1).toNatClampNeg) then none else gf_Model_relation_b81 F z  u10 (u10.1 q23 (x1).toNatClampNeg)) else (if x2 = (2 : Int32) then (gf_nn (u10.2.2 t0 24) fun q20 => if (x1 < 0 ∨ z.2.2 q20 ≤ (x1).toNatClampNeg) then none else gf_Model_relation_b81 F z  u10 (u10.1 q20 (x1).toNatClampNeg)) else (gf_nn (u10.2.2 t0 25) fun q17 => if (x1 < 0 ∨ z.2.2 q17 ≤ (x1).toNatClampNeg) then none else gf_Model_relation_b81 F z  u10 (u10.1 q17 (x1).toNatClampNeg))))))
def gf_Model_relation (F : Nat) (z : gw_Sh) (u : gw_St) (t0 : Nat) (x1 : Int32) (x2 : Int32) : Option (Int32 × gw_St) := gf_Model_relation_b0 F z  u t0 x1 x2
set_option maxHeartbeats 4000000 in
set_option maxRecDepth 20000 in
theorem gx_Model_relation_b28 {p : Program} {l : Launch} {e : Env} {s : State} {m : MethodId} {args : Array Value} {below : List Frame} {meth : Method} {c : Code} {D : va_G} {cA : Nat → ClassId} {hs : Nat → Nat} {z : gw_Sh} (F : Nat) {r0 : (Int32 × gw_St)} (C : gw_Cx p s m args c gb_Model_relation 3 R_Model D cA) (hr : meth.sig.returnType = (some .int)) (hk : meth.locks = false) (u : gw_St) (t0 : Nat) (o_t0 : gw_ok z t0 9) {H : Heap} {locs : List Loc} {ls : Array Slot} (hW : gw_Wx D cA hs z s u H locs) (hl : lv_has ls 3 [(0, .ref (hs t0))]) (h : gf_Model_relation_b28 F z   u t0 = some r0) : gw_Gi p l e gr_Model_relation s m args below meth c D cA hs z r0 H locs ls 28 [] := by
  obtain ⟨hx, hb, hml, hown, hts, hK⟩ := id C
  unfold gf_Model_relation_b28 at h
  refine lv_aload_n hx hb gd_Model_relation_28 rfl (lv_at hl 0 rfl) ?_
  refine lv_iconst (v := 1) hx hb gd_Model_relation_29 (by decide) ?_
  obtain ⟨a3, u1, d2, h⟩ := gf_cl_ok h
  refine gw_callVi (K := R_Model) (As := [.int (1 : Int32)]) (rest := []) C hW (fun _ h => Or.inr h) hl.1 gm_Model_fail (gc_Model_fail l F o_t0 d2 _) gk_385 gk_386 gk_387 o_t0 (by decide) rfl rfl rfl ⟨Nat.le_of_ble_eq_true rfl, Nat.le_of_ble_eq_true rfl⟩ ⟨Nat.zero_le _, Nat.zero_le _⟩ rfl rfl (Nat.le_of_ble_eq_true rfl) gd_Model_relation_30 (fun H locs hW => ?_)
  obtain rfl := Option.some.inj h
  exact gw_iret C hW hr hk gd_Model_relation_33

set_option maxHeartbeats 4000000 in
set_option maxRecDepth 20000 in
theorem gx_Model_relation_b81 {p : Program} {l : Launch} {e : Env} {s : State} {m : MethodId} {args : Array Value} {below : List Frame} {meth : Method} {c : Code} {D : va_G} {cA : Nat → ClassId} {hs : Nat → Nat} {z : gw_Sh} (F : Nat) {r0 : (Int32 × gw_St)} (C : gw_Cx p s m args c gb_Model_relation 3 R_Model D cA) (hr : meth.sig.returnType = (some .int)) (hk : meth.locks = false) (u : gw_St) (sx0 : Int32)  {H : Heap} {locs : List Loc} {ls : Array Slot} (hW : gw_Wx D cA hs z s u H locs) (hl : lv_has ls 3 []) (h : gf_Model_relation_b81 F z   u sx0 = some r0) : gw_Gi p l e gr_Model_relation s m args below meth c D cA hs z r0 H locs ls 81 [.int sx0] := by
  obtain ⟨hx, hb, hml, hown, hts, hK⟩ := id C
  unfold gf_Model_relation_b81 at h
  obtain rfl := Option.some.inj h
  exact gw_iret C hW hr hk gd_Model_relation_81

set_option maxHeartbeats 4000000 in
set_option maxRecDepth 20000 in
theorem gx_Model_relation_b0 {p : Program} {l : Launch} {e : Env} {s : State} {m : MethodId} {args : Array Value} {below : List Frame} {meth : Method} {c : Code} {D : va_G} {cA : Nat → ClassId} {hs : Nat → Nat} {z : gw_Sh} (F : Nat) {r0 : (Int32 × gw_St)} (C : gw_Cx p s m args c gb_Model_relation 3 R_Model D cA) (hr : meth.sig.returnType = (some .int)) (hk : meth.locks = false) (u : gw_St) (t0 : Nat) (x1 : Int32) (x2 : Int32) (o_t0 : gw_ok z t0 9) {H : Heap} {locs : List Loc} {ls : Array Slot} (hW : gw_Wx D cA hs z s u H locs) (hl : lv_has ls 3 [(0, .ref (hs t0)), (1, .int x1), (2, .int x2)]) (h : gf_Model_relation_b0 F z   u t0 x1 x2 = some r0) : gw_Gi p l e gr_Model_relation s m args below meth c D cA hs z r0 H locs ls 0 [] := by
  obtain ⟨hx, hb, hml, hown, hts, hK⟩ := id C
  unfold gf_Model_relation_b0 at h
  refine lv_aload_n hx hb gd_Model_relation_0 rfl (lv_at hl 0 rfl) ?_
  refine lv_iconst (v := 0) hx hb gd_Model_relation_1 (by decide) ?_
  refine gw_puti (k := 0) (ref := R_Model) (fty := .int) C hW o_t0 (by decide) rfl gi_Model rfl (by decide) rfl rfl gk_376 tf_Model tf_Model_ok nm_Model rfl rfl rfl rfl gd_Model_relation_2 (fun u4 H locs e5 hW => ?_)
  have h := gf_nm_ok e5 h
  refine lv_iload_n hx hb gd_Model_relation_5 rfl (lv_at hl 1 rfl) ?_
  refine lv_iconst (v := 0) hx hb gd_Model_relation_6 (by decide) ?_
  refine lv_aload_n hx hb gd_Model_relation_7 rfl (lv_at hl 0 rfl) ?_
  refine gw_geti (k := 19) (ref := R_Model) C hW o_t0 (by decide) rfl gi_Model rfl (by decide) rfl rfl gk_466 gd_Model_relation_8 ?_
  refine lv_iconst (v := 1) hx hb gd_Model_relation_11 (by decide) ?_
  refine lv_isub hx hb gd_Model_relation_12 ?_
  obtain ⟨a8, u6, d7, h⟩ := gf_cl_ok h
  refine gw_callSi (As := [.int x1, .int (0 : Int32), .int ((u4.1 t0 19) - (1 : Int32))]) (rest := []) C hW (fun _ h => Or.inr h) hl.1 gm_Model_within (gc_Model_within l F  d7 _) gk_398 gk_399 rfl rfl ⟨Nat.le_of_ble_eq_true rfl, Nat.le_of_ble_eq_true rfl⟩ ⟨Nat.zero_le _, Nat.zero_le _⟩ rfl rfl (Nat.le_of_ble_eq_true rfl) gd_Model_relation_13 (fun H locs hW => ?_)
  refine lv_if_eq (tgt := 28) hx hb gd_Model_relation_16 (by decide) (fun c9 => ?_) (fun c9 => ?_)
  · have h := gf_t c9 h
    exact gx_Model_relation_b28 F C hr hk  u6 t0 o_t0 hW (lv_sub hl [0] rfl) h
  · have h := gf_f c9 h
    refine lv_iload_n hx hb gd_Model_relation_19 rfl (lv_at hl 2 rfl) ?_
    refine lv_iconst (v := 0) hx hb gd_Model_relation_20 (by decide) ?_
    refine lv_iconst (v := 3) hx hb gd_Model_relation_21 (by decide) ?_
    obtain ⟨a12, u10, d11, h⟩ := gf_cl_ok h
    refine gw_callSi (As := [.int x2, .int (0 : Int32), .int (3 : Int32)]) (rest := []) C hW (fun _ h => Or.inr h) hl.1 gm_Model_within (gc_Model_within l F  d11 _) gk_398 gk_399 rfl rfl ⟨Nat.le_of_ble_eq_true rfl, Nat.le_of_ble_eq_true rfl⟩ ⟨Nat.zero_le _, Nat.zero_le _⟩ rfl rfl (Nat.le_of_ble_eq_true rfl) gd_Model_relation_22 (fun H locs hW => ?_)
    refine lv_if_ne (tgt := 34) hx hb gd_Model_relation_25 (by decide) (fun c13 => ?_) (fun c13 => ?_)
    · have h := gf_f c13 h
      refine lv_iload_n hx hb gd_Model_relation_34 rfl (lv_at hl 2 rfl) ?_
      refine lv_if_ne (tgt := 47) hx hb gd_Model_relation_35 (by decide) (fun c14 => ?_) (fun c14 => ?_)
      · have h := gf_f c14 h
        refine lv_iload_n hx hb gd_Model_relation_47 rfl (lv_at hl 2 rfl) ?_
        refine lv_iconst (v := 1) hx hb gd_Model_relation_48 (by decide) ?_
        refine lv_icmp_ne (tgt := 61) hx hb gd_Model_relation_49 (by decide) (fun c15 => ?_) (fun c15 => ?_)
        · have h := gf_f c15 h
          refine lv_iload_n hx hb gd_Model_relation_61 rfl (lv_at hl 2 rfl) ?_
          refine lv_iconst (v := 2) hx hb gd_Model_relation_62 (by decide) ?_
          refine lv_icmp_ne (tgt := 75) hx hb gd_Model_relation_63 (by decide) (fun c16 => ?_) (fun c16 => ?_)
          · have h := gf_f c16 h
            refine lv_aload_n hx hb gd_Model_relation_75 rfl (lv_at hl 0 rfl) ?_
            obtain ⟨q17, e18, h⟩ := gf_nn_ok h
            refine gw_getr (k := 25) (ty := 10) (ref := R_Model) C hW o_t0 (by decide) rfl gi_Model rfl (by decide) rfl rfl gk_470 gd_Model_relation_76 e18 ?_
            have o_q17 := hW.ref (d := 10) o_t0 e18 rfl
            refine lv_iload_n hx hb gd_Model_relation_79 rfl (lv_at hl 1 rfl) ?_
            obtain ⟨g19, h⟩ := gf_if_ok h
            refine gw_iald C hW o_q17 g19 gd_Model_relation_80 ?_
            exact gx_Model_relation_b81 F C hr hk  u10 (u10.1 q17 (x1).toNatClampNeg)  hW (lv_sub hl [] rfl) h
          · have h := gf_t c16 h
            refine lv_aload_n hx hb gd_Model_relation_66 rfl (lv_at hl 0 rfl) ?_
            obtain ⟨q20, e21, h⟩ := gf_nn_ok h
            refine gw_getr (k := 24) (ty := 10) (ref := R_Model) C hW o_t0 (by decide) rfl gi_Model rfl (by decide) rfl rfl gk_469 gd_Model_relation_67 e21 ?_
            have o_q20 := hW.ref (d := 10) o_t0 e21 rfl
            refine lv_iload_n hx hb gd_Model_relation_70 rfl (lv_at hl 1 rfl) ?_
            obtain ⟨g22, h⟩ := gf_if_ok h
            refine gw_iald C hW o_q20 g22 gd_Model_relation_71 ?_
            refine lv_goto (tgt := 81) hx hb gd_Model_relation_72 (by decide) ?_
            exact gx_Model_relation_b81 F C hr hk  u10 (u10.1 q20 (x1).toNatClampNeg)  hW (lv_sub hl [] rfl) h
        · have h := gf_t c15 h
          refine lv_aload_n hx hb gd_Model_relation_52 rfl (lv_at hl 0 rfl) ?_
          obtain ⟨q23, e24, h⟩ := gf_nn_ok h
          refine gw_getr (k := 23) (ty := 10) (ref := R_Model) C hW o_t0 (by decide) rfl gi_Model rfl (by decide) rfl rfl gk_468 gd_Model_relation_53 e24 ?_
          have o_q23 := hW.ref (d := 10) o_t0 e24 rfl
          refine lv_iload_n hx hb gd_Model_relation_56 rfl (lv_at hl 1 rfl) ?_
          obtain ⟨g25, h⟩ := gf_if_ok h
          refine gw_iald C hW o_q23 g25 gd_Model_relation_57 ?_
          refine lv_goto (tgt := 81) hx hb gd_Model_relation_58 (by decide) ?_
          exact gx_Model_relation_b81 F C hr hk  u10 (u10.1 q23 (x1).toNatClampNeg)  hW (lv_sub hl [] rfl) h
      · have h := gf_t c14 h
        refine lv_aload_n hx hb gd_Model_relation_38 rfl (lv_at hl 0 rfl) ?_
        obtain ⟨q26, e27, h⟩ := gf_nn_ok h
        refine gw_getr (k := 22) (ty := 10) (ref := R_Model) C hW o_t0 (by decide) rfl gi_Model rfl (by decide) rfl rfl gk_467 gd_Model_relation_39 e27 ?_
        have o_q26 := hW.ref (d := 10) o_t0 e27 rfl
        refine lv_iload_n hx hb gd_Model_relation_42 rfl (lv_at hl 1 rfl) ?_
        obtain ⟨g28, h⟩ := gf_if_ok h
        refine gw_iald C hW o_q26 g28 gd_Model_relation_43 ?_
        refine lv_goto (tgt := 81) hx hb gd_Model_relation_44 (by decide) ?_
        exact gx_Model_relation_b81 F C hr hk  u10 (u10.1 q26 (x1).toNatClampNeg)  hW (lv_sub hl [] rfl) h
    · have h := gf_t c13 h
      exact gx_Model_relation_b28 F C hr hk  u10 t0 o_t0 hW (lv_sub hl [0] rfl) h

set_option maxRecDepth 20000 in
theorem gc_Model_relation (l : Launch) {D : va_G} {cA : Nat → ClassId} {hs : Nat → Nat} {z : gw_Sh} (F : Nat) {u : gw_St} {r0 : (Int32 × gw_St)} {t0 : Nat} {x1 : Int32} {x2 : Int32} (o_t0 : gw_ok z t0 9) (h : gf_Model_relation F z u t0 x1 x2 = some r0) (sz : Nat) : gw_Mi l gy_Model_relation gb_Model_relation 3 (some .int) gr_Model_relation [.ref (hs t0), .int x1, .int x2] D cA hs z u sz r0 := by
  refine gw_enter (by decide) (Nat.le_of_ble_eq_true rfl) ?_
  intro p e s m below meth c ls hsz C hW hr hk _ hl
  subst hsz
  exact gx_Model_relation_b0 F C hr hk u t0 x1 x2 o_t0 hW (lv_sub hl [0, 1, 2] rfl) h
-- GearDeskModel.crank(I)I
theorem gk_484 : Cond.fieldLink R_Model 20 R_Model "crankGear" "I" ∈ gt_T := gt_m6 (List.mem_of_getElem? (i := 72) rfl) rfl
def gy_Model_crank : MethodName := ⟨R_Model, "crank", "(I)I"⟩
abbrev gb_Model_crank : ByteArray := prog_11_method_33_code
theorem gk_485 : Cond.code gy_Model_crank gb_Model_crank 3 (some .int) ∈ gt_T := gt_m7 (List.mem_of_getElem? (i := 80) rfl) rfl
def gr_Model_crank : Room := gw_rm 3 107
theorem gm_Model_crank : gw_Mth gy_Model_crank gb_Model_crank 3 (some .int) 1 := ⟨gk_485, gk_377, ⟨by decide +kernel, by decide +kernel⟩, by decide +kernel⟩
theorem gd_Model_crank_0 : decode gb_Model_crank 0 = .ok (.aload_n 0, 1) := by decide +kernel
theorem gd_Model_crank_1 : decode gb_Model_crank 1 = .ok (.iconst 0, 1) := by decide +kernel
theorem gd_Model_crank_2 : decode gb_Model_crank 2 = .ok (.putfield 112, 3) := by decide +kernel
theorem gd_Model_crank_5 : decode gb_Model_crank 5 = .ok (.aload_n 0, 1) := by decide +kernel
theorem gd_Model_crank_6 : decode gb_Model_crank 6 = .ok (.iload_n 1, 1) := by decide +kernel
theorem gd_Model_crank_7 : decode gb_Model_crank 7 = .ok (.invokevirtual 220, 3) := by decide +kernel
theorem gd_Model_crank_10 : decode gb_Model_crank 10 = .ok (.ifCond .ne 9, 3) := by decide +kernel
theorem gd_Model_crank_13 : decode gb_Model_crank 13 = .ok (.aload_n 0, 1) := by decide +kernel
theorem gd_Model_crank_14 : decode gb_Model_crank 14 = .ok (.iconst 1, 1) := by decide +kernel
theorem gd_Model_crank_15 : decode gb_Model_crank 15 = .ok (.invokevirtual 123, 3) := by decide +kernel
theorem gd_Model_crank_18 : decode gb_Model_crank 18 = .ok (.ireturn, 1) := by decide +kernel
theorem gd_Model_crank_19 : decode gb_Model_crank 19 = .ok (.aload_n 0, 1) := by decide +kernel
theorem gd_Model_crank_20 : decode gb_Model_crank 20 = .ok (.getfield 20, 3) := by decide +kernel
theorem gd_Model_crank_23 : decode gb_Model_crank 23 = .ok (.istore_n 2, 1) := by decide +kernel
theorem gd_Model_crank_24 : decode gb_Model_crank 24 = .ok (.aload_n 0, 1) := by decide +kernel
theorem gd_Model_crank_25 : decode gb_Model_crank 25 = .ok (.iload_n 1, 1) := by decide +kernel
theorem gd_Model_crank_26 : decode gb_Model_crank 26 = .ok (.putfield 20, 3) := by decide +kernel
theorem gd_Model_crank_29 : decode gb_Model_crank 29 = .ok (.iload_n 2, 1) := by decide +kernel
theorem gd_Model_crank_30 : decode gb_Model_crank 30 = .ok (.ireturn, 1) := by decide +kernel
def gf_Model_crank_b0 (F : Nat) (z : gw_Sh)  (u : gw_St) (t0 : Nat) (x1 : Int32) : Option (Int32 × gw_St) :=
  gf_nm (gw_wi u t0 0 (0 : Int32)) fun u1 => gf_cl (gf_Model_isGear F z u1 t0 x1) fun a5 u3 => if a5 = 0 then (gf_cl (gf_Model_fail F z u3 t0 (1 : Int32)) fun a13 u11 => some (a13, u11)) else (gf_nm (u3.1 t0 20) fun a7 => gf_nm (gw_wi u3 t0 20 x1) fun u9 => some (a7, u9))
def gf_Model_crank (F : Nat) (z : gw_Sh) (u : gw_St) (t0 : Nat) (x1 : Int32) : Option (Int32 × gw_St) := gf_Model_crank_b0 F z  u t0 x1
set_option maxHeartbeats 4000000 in
set_option maxRecDepth 20000 in
theorem gx_Model_crank_b0 {p : Program} {l : Launch} {e : Env} {s : State} {m : MethodId} {args : Array Value} {below : List Frame} {meth : Method} {c : Code} {D : va_G} {cA : Nat → ClassId} {hs : Nat → Nat} {z : gw_Sh} (F : Nat) {r0 : (Int32 × gw_St)} (C : gw_Cx p s m args c gb_Model_crank 3 R_Model D cA) (hr : meth.sig.returnType = (some .int)) (hk : meth.locks = false) (u : gw_St) (t0 : Nat) (x1 : Int32) (o_t0 : gw_ok z t0 9) {H : Heap} {locs : List Loc} {ls : Array Slot} (hW : gw_Wx D cA hs z s u H locs) (hl : lv_has ls 3 [(0, .ref (hs t0)), (1, .int x1)]) (h : gf_Model_crank_b0 F z   u t0 x1 = some r0) : gw_Gi p l e gr_Model_crank s m args below meth c D cA hs z r0 H locs ls 0 [] := by
  obtain ⟨hx, hb, hml, hown, hts, hK⟩ := id C
  unfold gf_Model_crank_b0 at h
  refine lv_aload_n hx hb gd_Model_crank_0 rfl (lv_at hl 0 rfl) ?_
  refine lv_iconst (v := 0) hx hb gd_Model_crank_1 (by decide) ?_
  refine gw_puti (k := 0) (ref := R_Model) (fty := .int) C hW o_t0 (by decide) rfl gi_Model rfl (by decide) rfl rfl gk_376 tf_Model tf_Model_ok nm_Model rfl rfl rfl rfl gd_Model_crank_2 (fun u1 H locs e2 hW => ?_)
  have h := gf_nm_ok e2 h
  refine lv_aload_n hx hb gd_Model_crank_5 rfl (lv_at hl 0 rfl) ?_
  refine lv_iload_n hx hb gd_Model_crank_6 rfl (lv_at hl 1 rfl) ?_
  obtain ⟨a5, u3, d4, h⟩ := gf_cl_ok h
  refine gw_callVi (K := R_Model) (As := [.int x1]) (rest := []) C hW (fun _ h => Or.inr h) hl.1 gm_Model_isGear (gc_Model_isGear l F o_t0 d4 _) gk_471 gk_472 gk_473 o_t0 (by decide) rfl rfl rfl ⟨Nat.le_of_ble_eq_true rfl, Nat.le_of_ble_eq_true rfl⟩ ⟨Nat.zero_le _, Nat.zero_le _⟩ rfl rfl (Nat.le_of_ble_eq_true rfl) gd_Model_crank_7 (fun H locs hW => ?_)
  refine lv_if_ne (tgt := 19) hx hb gd_Model_crank_10 (by decide) (fun c6 => ?_) (fun c6 => ?_)
  · have h := gf_f c6 h
    refine lv_aload_n hx hb gd_Model_crank_19 rfl (lv_at hl 0 rfl) ?_
    refine gw_geti (k := 20) (ref := R_Model) C hW o_t0 (by decide) rfl gi_Model rfl (by decide) rfl rfl gk_484 gd_Model_crank_20 ?_
    refine lv_topi (fun a7 e8 => ?_)
    have h := gf_nm_ok e8 h
    refine lv_istore_n (lv' := [(2, .int a7), (0, .ref (hs t0)), (1, .int x1)]) hx hb gd_Model_crank_23 rfl hl (by decide) rfl (fun ls hl => ?_)
    refine lv_aload_n hx hb gd_Model_crank_24 rfl (lv_at hl 1 rfl) ?_
    refine lv_iload_n hx hb gd_Model_crank_25 rfl (lv_at hl 2 rfl) ?_
    refine gw_puti (k := 20) (ref := R_Model) (fty := .int) C hW o_t0 (by decide) rfl gi_Model rfl (by decide) rfl rfl gk_484 tf_Model tf_Model_ok nm_Model rfl rfl rfl rfl gd_Model_crank_26 (fun u9 H locs e10 hW => ?_)
    have h := gf_nm_ok e10 h
    refine lv_iload_n hx hb gd_Model_crank_29 rfl (lv_at hl 0 rfl) ?_
    obtain rfl := Option.some.inj h
    exact gw_iret C hW hr hk gd_Model_crank_30
  · have h := gf_t c6 h
    refine lv_aload_n hx hb gd_Model_crank_13 rfl (lv_at hl 0 rfl) ?_
    refine lv_iconst (v := 1) hx hb gd_Model_crank_14 (by decide) ?_
    obtain ⟨a13, u11, d12, h⟩ := gf_cl_ok h
    refine gw_callVi (K := R_Model) (As := [.int (1 : Int32)]) (rest := []) C hW (fun _ h => Or.inr h) hl.1 gm_Model_fail (gc_Model_fail l F o_t0 d12 _) gk_385 gk_386 gk_387 o_t0 (by decide) rfl rfl rfl ⟨Nat.le_of_ble_eq_true rfl, Nat.le_of_ble_eq_true rfl⟩ ⟨Nat.zero_le _, Nat.zero_le _⟩ rfl rfl (Nat.le_of_ble_eq_true rfl) gd_Model_crank_15 (fun H locs hW => ?_)
    obtain rfl := Option.some.inj h
    exact gw_iret C hW hr hk gd_Model_crank_18

set_option maxRecDepth 20000 in
theorem gc_Model_crank (l : Launch) {D : va_G} {cA : Nat → ClassId} {hs : Nat → Nat} {z : gw_Sh} (F : Nat) {u : gw_St} {r0 : (Int32 × gw_St)} {t0 : Nat} {x1 : Int32} (o_t0 : gw_ok z t0 9) (h : gf_Model_crank F z u t0 x1 = some r0) (sz : Nat) : gw_Mi l gy_Model_crank gb_Model_crank 3 (some .int) gr_Model_crank [.ref (hs t0), .int x1] D cA hs z u sz r0 := by
  refine gw_enter (by decide) (Nat.le_of_ble_eq_true rfl) ?_
  intro p e s m below meth c ls hsz C hW hr hk _ hl
  subst hsz
  exact gx_Model_crank_b0 F C hr hk u t0 x1 o_t0 hW (lv_sub hl [0, 1] rfl) h
-- GearDeskModel.power(JJJ)J
def gy_Model_power : MethodName := ⟨R_Model, "power", "(JJJ)J"⟩
abbrev gb_Model_power : ByteArray := prog_11_method_34_code
theorem gk_486 : Cond.code gy_Model_power gb_Model_power 12 (some .long) ∈ gt_T := gt_m7 (List.mem_of_getElem? (i := 116) rfl) rfl
def gr_Model_power : Room := gw_rm 1 64
theorem gm_Model_power : gw_Mth gy_Model_power gb_Model_power 12 (some .long) 3 := ⟨gk_486, gk_377, ⟨by decide +kernel, by decide +kernel⟩, by decide +kernel⟩
theorem gd_Model_power_0 : decode gb_Model_power 0 = .ok (.lconst 1, 1) := by decide +kernel
theorem gd_Model_power_1 : decode gb_Model_power 1 = .ok (.lstore 6, 2) := by decide +kernel
theorem gd_Model_power_3 : decode gb_Model_power 3 = .ok (.lload_n 0, 1) := by decide +kernel
theorem gd_Model_power_4 : decode gb_Model_power 4 = .ok (.lload 4, 2) := by decide +kernel
theorem gd_Model_power_6 : decode gb_Model_power 6 = .ok (.lrem, 1) := by decide +kernel
theorem gd_Model_power_7 : decode gb_Model_power 7 = .ok (.lstore 8, 2) := by decide +kernel
theorem gd_Model_power_9 : decode gb_Model_power 9 = .ok (.lload_n 2, 1) := by decide +kernel
theorem gd_Model_power_10 : decode gb_Model_power 10 = .ok (.lstore 10, 2) := by decide +kernel
theorem gd_Model_power_12 : decode gb_Model_power 12 = .ok (.lload 10, 2) := by decide +kernel
theorem gd_Model_power_14 : decode gb_Model_power 14 = .ok (.lconst 0, 1) := by decide +kernel
theorem gd_Model_power_15 : decode gb_Model_power 15 = .ok (.lcmp, 1) := by decide +kernel
theorem gd_Model_power_16 : decode gb_Model_power 16 = .ok (.ifCond .le 50, 3) := by decide +kernel
theorem gd_Model_power_19 : decode gb_Model_power 19 = .ok (.lload 10, 2) := by decide +kernel
theorem gd_Model_power_21 : decode gb_Model_power 21 = .ok (.ldc2_w 117, 3) := by decide +kernel
theorem gd_Model_power_24 : decode gb_Model_power 24 = .ok (.lrem, 1) := by decide +kernel
theorem gd_Model_power_25 : decode gb_Model_power 25 = .ok (.lconst 1, 1) := by decide +kernel
theorem gd_Model_power_26 : decode gb_Model_power 26 = .ok (.lcmp, 1) := by decide +kernel
theorem gd_Model_power_27 : decode gb_Model_power 27 = .ok (.ifCond .ne 14, 3) := by decide +kernel
theorem gd_Model_power_30 : decode gb_Model_power 30 = .ok (.lload 6, 2) := by decide +kernel
theorem gd_Model_power_32 : decode gb_Model_power 32 = .ok (.lload 8, 2) := by decide +kernel
theorem gd_Model_power_34 : decode gb_Model_power 34 = .ok (.lmul, 1) := by decide +kernel
theorem gd_Model_power_35 : decode gb_Model_power 35 = .ok (.lload 4, 2) := by decide +kernel
theorem gd_Model_power_37 : decode gb_Model_power 37 = .ok (.lrem, 1) := by decide +kernel
theorem gd_Model_power_38 : decode gb_Model_power 38 = .ok (.goto 5, 3) := by decide +kernel
theorem gd_Model_power_41 : decode gb_Model_power 41 = .ok (.lload 6, 2) := by decide +kernel
theorem gd_Model_power_43 : decode gb_Model_power 43 = .ok (.lstore 6, 2) := by decide +kernel
theorem gd_Model_power_45 : decode gb_Model_power 45 = .ok (.lload 8, 2) := by decide +kernel
theorem gd_Model_power_47 : decode gb_Model_power 47 = .ok (.lload 8, 2) := by decide +kernel
theorem gd_Model_power_49 : decode gb_Model_power 49 = .ok (.lmul, 1) := by decide +kernel
theorem gd_Model_power_50 : decode gb_Model_power 50 = .ok (.lload 4, 2) := by decide +kernel
theorem gd_Model_power_52 : decode gb_Model_power 52 = .ok (.lrem, 1) := by decide +kernel
theorem gd_Model_power_53 : decode gb_Model_power 53 = .ok (.lstore 8, 2) := by decide +kernel
theorem gd_Model_power_55 : decode gb_Model_power 55 = .ok (.lload 10, 2) := by decide +kernel
theorem gd_Model_power_57 : decode gb_Model_power 57 = .ok (.ldc2_w 117, 3) := by decide +kernel
theorem gd_Model_power_60 : decode gb_Model_power 60 = .ok (.ldiv, 1) := by decide +kernel
theorem gd_Model_power_61 : decode gb_Model_power 61 = .ok (.lstore 10, 2) := by decide +kernel
theorem gd_Model_power_63 : decode gb_Model_power 63 = .ok (.goto (-51), 3) := by decide +kernel
theorem gd_Model_power_66 : decode gb_Model_power 66 = .ok (.lload 6, 2) := by decide +kernel
theorem gd_Model_power_68 : decode gb_Model_power 68 = .ok (.lreturn, 1) := by decide +kernel
def gf_Model_power_b43 (F : Nat) (z : gw_Sh) (rc_12 : gw_St → Int64 → Int64 → Int64 → Int64 → Option (Int64 × gw_St)) (u : gw_St) (y4 : Int64) (y8 : Int64) (y10 : Int64) (sy0 : Int64) : Option (Int64 × gw_St) :=
  if y4 = 0 then none else gf_nm ((y8 * y8) - (y8 * y8) / y4 * y4) fun a2 => if (2 : Int64) = 0 then none else gf_nm (y10 / (2 : Int64)) fun a5 => rc_12 u y4 sy0 a2 a5
def gf_Model_power_S12 (F : Nat) (z : gw_Sh)  (rc_12 : gw_St → Int64 → Int64 → Int64 → Int64 → Option (Int64 × gw_St)) (u : gw_St) (y4 : Int64) (y6 : Int64) (y8 : Int64) (y10 : Int64) : Option (Int64 × gw_St) :=
  if (lg_cmp y10 (0 : Int64)) ≤ 0 then (some (y6, u)) else (if (2 : Int64) = 0 then none else if (lg_cmp (y10 - y10 / (2 : Int64) * (2 : Int64)) (1 : Int64)) = 0 then (if y4 = 0 then none else gf_Model_power_b43 F z rc_12 u y4 y8 y10 ((y6 * y8) - (y6 * y8) / y4 * y4)) else (gf_Model_power_b43 F z rc_12 u y4 y8 y10 y6))
def gf_Model_power_L12 (F : Nat) (z : gw_Sh)  : Nat → gw_St → Int64 → Int64 → Int64 → Int64 → Option (Int64 × gw_St)
  | 0 => fun _ _ _ _ _ => none
  | n + 1 => fun u y4 y6 y8 y10 => gf_Model_power_S12 F z  (gf_Model_power_L12 F z  n) u y4 y6 y8 y10
def gf_Model_power_b0 (F : Nat) (z : gw_Sh)  (u : gw_St) (y0 : Int64) (y2 : Int64) (y4 : Int64) : Option (Int64 × gw_St) :=
  if y4 = 0 then none else gf_nm (y0 - y0 / y4 * y4) fun a12 => gf_Model_power_L12 F z  F u y4 1 a12 y2
def gf_Model_power (F : Nat) (z : gw_Sh) (u : gw_St) (y0 : Int64) (y2 : Int64) (y4 : Int64) : Option (Int64 × gw_St) := gf_Model_power_b0 F z  u y0 y2 y4
set_option maxHeartbeats 4000000 in
set_option maxRecDepth 20000 in
theorem gx_Model_power_b43 {p : Program} {l : Launch} {e : Env} {s : State} {m : MethodId} {args : Array Value} {below : List Frame} {meth : Method} {c : Code} {D : va_G} {cA : Nat → ClassId} {hs : Nat → Nat} {z : gw_Sh} (F : Nat) {r0 : (Int64 × gw_St)} (C : gw_Cx p s m args c gb_Model_power 12 R_Model D cA) (hr : meth.sig.returnType = (some .long)) (hk : meth.locks = false) {rc_12 : gw_St → Int64 → Int64 → Int64 → Int64 → Option (Int64 × gw_St)} (k_12 : ∀ (u : gw_St) (y4 : Int64) (y6 : Int64) (y8 : Int64) (y10 : Int64) (H : Heap) (locs : List Loc) (ls : Array Slot), gw_Wx D cA hs z s u H locs → lv_has ls 12 [(4, .long y4), (6, .long y6), (8, .long y8), (10, .long y10)] → rc_12 u y4 y6 y8 y10 = some r0 → gw_Gl p l e gr_Model_power s m args below meth c D cA hs z r0 H locs ls 12 []) (u : gw_St) (y4 : Int64) (y8 : Int64) (y10 : Int64) (sy0 : Int64)  {H : Heap} {locs : List Loc} {ls : Array Slot} (hW : gw_Wx D cA hs z s u H locs) (hl : lv_has ls 12 [(4, .long y4), (8, .long y8), (10, .long y10)]) (h : gf_Model_power_b43 F z rc_12  u y4 y8 y10 sy0 = some r0) : gw_Gl p l e gr_Model_power s m args below meth c D cA hs z r0 H locs ls 43 [.long sy0] := by
  obtain ⟨hx, hb, hml, hown, hts, hK⟩ := id C
  unfold gf_Model_power_b43 at h
  refine lv_lstore (lv' := [(6, .long sy0), (4, .long y4), (8, .long y8), (10, .long y10)]) hx hb gd_Model_power_43 hl (by decide) rfl (fun ls hl => ?_)
  refine lv_lload hx hb gd_Model_power_45 (lv_at hl 2 rfl) ?_
  refine lv_lload hx hb gd_Model_power_47 (lv_at hl 2 rfl) ?_
  refine lv_lmul hx hb gd_Model_power_49 ?_
  refine lv_lload hx hb gd_Model_power_50 (lv_at hl 1 rfl) ?_
  obtain ⟨g1, h⟩ := gf_if_ok h
  refine lv_lrem hx hb gd_Model_power_52 g1 ?_
  refine lv_topl (fun a2 e3 => ?_)
  have h := gf_nm_ok e3 h
  refine lv_lstore (lv' := [(8, .long a2), (6, .long sy0), (4, .long y4), (10, .long y10)]) hx hb gd_Model_power_53 hl (by decide) rfl (fun ls hl => ?_)
  refine lv_lload hx hb gd_Model_power_55 (lv_at hl 3 rfl) ?_
  refine lv_ldc2 (v := 2) hx hb hown (hts _ gk_381) gd_Model_power_57 ?_
  obtain ⟨g4, h⟩ := gf_if_ok h
  refine lv_ldiv hx hb gd_Model_power_60 g4 ?_
  refine lv_topl (fun a5 e6 => ?_)
  have h := gf_nm_ok e6 h
  refine lv_lstore (lv' := [(10, .long a5), (8, .long a2), (6, .long sy0), (4, .long y4)]) hx hb gd_Model_power_61 hl (by decide) rfl (fun ls hl => ?_)
  refine lv_goto (tgt := 12) hx hb gd_Model_power_63 (by decide) ?_
  exact k_12 u y4 sy0 a2 a5 _ _ _  hW (lv_sub hl [3, 2, 1, 0] rfl) h

set_option maxHeartbeats 4000000 in
set_option maxRecDepth 20000 in
theorem gx_Model_power_S12 {p : Program} {l : Launch} {e : Env} {s : State} {m : MethodId} {args : Array Value} {below : List Frame} {meth : Method} {c : Code} {D : va_G} {cA : Nat → ClassId} {hs : Nat → Nat} {z : gw_Sh} (F : Nat) {r0 : (Int64 × gw_St)} (C : gw_Cx p s m args c gb_Model_power 12 R_Model D cA) (hr : meth.sig.returnType = (some .long)) (hk : meth.locks = false) {rc_12 : gw_St → Int64 → Int64 → Int64 → Int64 → Option (Int64 × gw_St)} (k_12 : ∀ (u : gw_St) (y4 : Int64) (y6 : Int64) (y8 : Int64) (y10 : Int64) (H : Heap) (locs : List Loc) (ls : Array Slot), gw_Wx D cA hs z s u H locs → lv_has ls 12 [(4, .long y4), (6, .long y6), (8, .long y8), (10, .long y10)] → rc_12 u y4 y6 y8 y10 = some r0 → gw_Gl p l e gr_Model_power s m args below meth c D cA hs z r0 H locs ls 12 []) (u : gw_St) (y4 : Int64) (y6 : Int64) (y8 : Int64) (y10 : Int64)  {H : Heap} {locs : List Loc} {ls : Array Slot} (hW : gw_Wx D cA hs z s u H locs) (hl : lv_has ls 12 [(4, .long y4), (6, .long y6), (8, .long y8), (10, .long y10)]) (h : gf_Model_power_S12 F z  rc_12 u y4 y6 y8 y10 = some r0) : gw_Gl p l e gr_Model_power s m args below meth c D cA hs z r0 H locs ls 12 [] := by
  obtain ⟨hx, hb, hml, hown, hts, hK⟩ := id C
  unfold gf_Model_power_S12 at h
  refine lv_lload hx hb gd_Model_power_12 (lv_at hl 3 rfl) ?_
  refine lv_lconst (v := 0) hx hb gd_Model_power_14 (by decide) ?_
  refine W.lcmp hx hb gd_Model_power_15 ?_
  refine lv_if_le (tgt := 66) hx hb gd_Model_power_16 (by decide) (fun c7 => ?_) (fun c7 => ?_)
  · have h := gf_t c7 h
    refine lv_lload hx hb gd_Model_power_66 (lv_at hl 1 rfl) ?_
    obtain rfl := Option.some.inj h
    exact gw_lret C hW hr hk gd_Model_power_68
  · have h := gf_f c7 h
    refine lv_lload hx hb gd_Model_power_19 (lv_at hl 3 rfl) ?_
    refine lv_ldc2 (v := 2) hx hb hown (hts _ gk_381) gd_Model_power_21 ?_
    obtain ⟨g8, h⟩ := gf_if_ok h
    refine lv_lrem hx hb gd_Model_power_24 g8 ?_
    refine lv_lconst (v := 1) hx hb gd_Model_power_25 (by decide) ?_
    refine W.lcmp hx hb gd_Model_power_26 ?_
    refine lv_if_ne (tgt := 41) hx hb gd_Model_power_27 (by decide) (fun c9 => ?_) (fun c9 => ?_)
    · have h := gf_f c9 h
      refine lv_lload hx hb gd_Model_power_41 (lv_at hl 1 rfl) ?_
      exact gx_Model_power_b43 F C hr hk k_12 u y4 y8 y10 y6  hW (lv_sub hl [0, 2, 3] rfl) h
    · have h := gf_t c9 h
      refine lv_lload hx hb gd_Model_power_30 (lv_at hl 1 rfl) ?_
      refine lv_lload hx hb gd_Model_power_32 (lv_at hl 2 rfl) ?_
      refine lv_lmul hx hb gd_Model_power_34 ?_
      refine lv_lload hx hb gd_Model_power_35 (lv_at hl 0 rfl) ?_
      obtain ⟨g10, h⟩ := gf_if_ok h
      refine lv_lrem hx hb gd_Model_power_37 g10 ?_
      refine lv_goto (tgt := 43) hx hb gd_Model_power_38 (by decide) ?_
      exact gx_Model_power_b43 F C hr hk k_12 u y4 y8 y10 ((y6 * y8) - (y6 * y8) / y4 * y4)  hW (lv_sub hl [0, 2, 3] rfl) h
set_option maxHeartbeats 4000000 in
set_option maxRecDepth 20000 in
theorem gx_Model_power_L12 {p : Program} {l : Launch} {e : Env} {s : State} {m : MethodId} {args : Array Value} {below : List Frame} {meth : Method} {c : Code} {D : va_G} {cA : Nat → ClassId} {hs : Nat → Nat} {z : gw_Sh} (F : Nat) {r0 : (Int64 × gw_St)} (C : gw_Cx p s m args c gb_Model_power 12 R_Model D cA) (hr : meth.sig.returnType = (some .long)) (hk : meth.locks = false) : ∀ (n : Nat), ∀ (u : gw_St) (y4 : Int64) (y6 : Int64) (y8 : Int64) (y10 : Int64) (H : Heap) (locs : List Loc) (ls : Array Slot), gw_Wx D cA hs z s u H locs → lv_has ls 12 [(4, .long y4), (6, .long y6), (8, .long y8), (10, .long y10)] → gf_Model_power_L12 F z  n u y4 y6 y8 y10 = some r0 → gw_Gl p l e gr_Model_power s m args below meth c D cA hs z r0 H locs ls 12 [] := by
  intro n
  induction n with
  | zero =>
    intro u y4 y6 y8 y10 H locs ls  hW hl h
    cases h
  | succ n ih =>
    intro u y4 y6 y8 y10 H locs ls  hW hl h
    exact gx_Model_power_S12 F C hr hk  ih u y4 y6 y8 y10  hW hl h

set_option maxHeartbeats 4000000 in
set_option maxRecDepth 20000 in
theorem gx_Model_power_b0 {p : Program} {l : Launch} {e : Env} {s : State} {m : MethodId} {args : Array Value} {below : List Frame} {meth : Method} {c : Code} {D : va_G} {cA : Nat → ClassId} {hs : Nat → Nat} {z : gw_Sh} (F : Nat) {r0 : (Int64 × gw_St)} (C : gw_Cx p s m args c gb_Model_power 12 R_Model D cA) (hr : meth.sig.returnType = (some .long)) (hk : meth.locks = false) (u : gw_St) (y0 : Int64) (y2 : Int64) (y4 : Int64)  {H : Heap} {locs : List Loc} {ls : Array Slot} (hW : gw_Wx D cA hs z s u H locs) (hl : lv_has ls 12 [(0, .long y0), (2, .long y2), (4, .long y4)]) (h : gf_Model_power_b0 F z   u y0 y2 y4 = some r0) : gw_Gl p l e gr_Model_power s m args below meth c D cA hs z r0 H locs ls 0 [] := by
  obtain ⟨hx, hb, hml, hown, hts, hK⟩ := id C
  unfold gf_Model_power_b0 at h
  refine lv_lconst (v := 1) hx hb gd_Model_power_0 (by decide) ?_
  refine lv_lstore (lv' := [(6, .long 1), (0, .long y0), (2, .long y2), (4, .long y4)]) hx hb gd_Model_power_1 hl (by decide) rfl (fun ls hl => ?_)
  refine lv_lload_n hx hb gd_Model_power_3 rfl (lv_at hl 1 rfl) ?_
  refine lv_lload hx hb gd_Model_power_4 (lv_at hl 3 rfl) ?_
  obtain ⟨g11, h⟩ := gf_if_ok h
  refine lv_lrem hx hb gd_Model_power_6 g11 ?_
  refine lv_topl (fun a12 e13 => ?_)
  have h := gf_nm_ok e13 h
  refine lv_lstore (lv' := [(8, .long a12), (6, .long 1), (0, .long y0), (2, .long y2), (4, .long y4)]) hx hb gd_Model_power_7 hl (by decide) rfl (fun ls hl => ?_)
  refine lv_lload_n hx hb gd_Model_power_9 rfl (lv_at hl 3 rfl) ?_
  refine lv_lstore (lv' := [(10, .long y2), (8, .long a12), (6, .long 1), (0, .long y0), (2, .long y2), (4, .long y4)]) hx hb gd_Model_power_10 hl (by decide) rfl (fun ls hl => ?_)
  exact gx_Model_power_L12 F C hr hk  F u y4 1 a12 y2 _ _ _  hW (lv_sub hl [5, 2, 1, 0] rfl) h

set_option maxRecDepth 20000 in
theorem gc_Model_power (l : Launch) {D : va_G} {cA : Nat → ClassId} {hs : Nat → Nat} {z : gw_Sh} (F : Nat) {u : gw_St} {r0 : (Int64 × gw_St)} {y0 : Int64} {y2 : Int64} {y4 : Int64}  (h : gf_Model_power F z u y0 y2 y4 = some r0) (sz : Nat) : gw_Ml l gy_Model_power gb_Model_power 12 (some .long) gr_Model_power [.long y0, .long y2, .long y4] D cA hs z u sz r0 := by
  refine gw_enter (by decide) (Nat.le_of_ble_eq_true rfl) ?_
  intro p e s m below meth c ls hsz C hW hr hk _ hl
  subst hsz
  exact gx_Model_power_b0 F C hr hk u y0 y2 y4  hW (lv_sub hl [0, 1, 2] rfl) h
-- GearDeskModel.clearLine()V
theorem gk_487 : Cond.fieldLink R_Model 86 R_Model "line" "[J" ∈ gt_T := gt_m6 (List.mem_of_getElem? (i := 94) rfl) rfl
def gy_Model_clearLine : MethodName := ⟨R_Model, "clearLine", "()V"⟩
abbrev gb_Model_clearLine : ByteArray := prog_11_method_35_code
theorem gk_488 : Cond.code gy_Model_clearLine gb_Model_clearLine 2 none ∈ gt_T := gt_m7 (List.mem_of_getElem? (i := 100) rfl) rfl
def gr_Model_clearLine : Room := gw_rm 1 64
theorem gm_Model_clearLine : gw_Mth gy_Model_clearLine gb_Model_clearLine 2 none 0 := ⟨gk_488, gk_377, ⟨by decide +kernel, by decide +kernel⟩, by decide +kernel⟩
theorem gd_Model_clearLine_0 : decode gb_Model_clearLine 0 = .ok (.iconst 0, 1) := by decide +kernel
theorem gd_Model_clearLine_1 : decode gb_Model_clearLine 1 = .ok (.istore_n 1, 1) := by decide +kernel
theorem gd_Model_clearLine_2 : decode gb_Model_clearLine 2 = .ok (.iload_n 1, 1) := by decide +kernel
theorem gd_Model_clearLine_3 : decode gb_Model_clearLine 3 = .ok (.bipush 60, 2) := by decide +kernel
theorem gd_Model_clearLine_5 : decode gb_Model_clearLine 5 = .ok (.if_icmp .gt 16, 3) := by decide +kernel
theorem gd_Model_clearLine_8 : decode gb_Model_clearLine 8 = .ok (.aload_n 0, 1) := by decide +kernel
theorem gd_Model_clearLine_9 : decode gb_Model_clearLine 9 = .ok (.getfield 86, 3) := by decide +kernel
theorem gd_Model_clearLine_12 : decode gb_Model_clearLine 12 = .ok (.iload_n 1, 1) := by decide +kernel
theorem gd_Model_clearLine_13 : decode gb_Model_clearLine 13 = .ok (.lconst 0, 1) := by decide +kernel
theorem gd_Model_clearLine_14 : decode gb_Model_clearLine 14 = .ok (.lastore, 1) := by decide +kernel
theorem gd_Model_clearLine_15 : decode gb_Model_clearLine 15 = .ok (.iinc 1 1, 3) := by decide +kernel
theorem gd_Model_clearLine_18 : decode gb_Model_clearLine 18 = .ok (.goto (-16), 3) := by decide +kernel
theorem gd_Model_clearLine_21 : decode gb_Model_clearLine 21 = .ok (.return_, 1) := by decide +kernel
def gf_Model_clearLine_S2 (F : Nat) (z : gw_Sh)  (rc_2 : gw_St → Nat → Int32 → Option gw_St) (u : gw_St) (t0 : Nat) (x1 : Int32) : Option gw_St :=
  if (60 : Int32) < x1 then (some u) else (gf_nn (u.2.2 t0 42) fun q2 => if (x1 < 0 ∨ z.2.2 q2 ≤ (x1).toNatClampNeg) then none else gf_nm (gw_wl u q2 (x1).toNatClampNeg (0 : Int64)) fun u5 => gf_nm (x1 + 1) fun a7 => rc_2 u5 t0 a7)
def gf_Model_clearLine_L2 (F : Nat) (z : gw_Sh)  : Nat → gw_St → Nat → Int32 → Option gw_St
  | 0 => fun _ _ _ => none
  | n + 1 => fun u t0 x1 => gf_Model_clearLine_S2 F z  (gf_Model_clearLine_L2 F z  n) u t0 x1
def gf_Model_clearLine_b0 (F : Nat) (z : gw_Sh)  (u : gw_St) (t0 : Nat) : Option gw_St :=
  gf_Model_clearLine_L2 F z  F u t0 0
def gf_Model_clearLine (F : Nat) (z : gw_Sh) (u : gw_St) (t0 : Nat) : Option gw_St := gf_Model_clearLine_b0 F z  u t0
set_option maxHeartbeats 4000000 in
set_option maxRecDepth 20000 in
theorem gx_Model_clearLine_S2 {p : Program} {l : Launch} {e : Env} {s : State} {m : MethodId} {args : Array Value} {below : List Frame} {meth : Method} {c : Code} {D : va_G} {cA : Nat → ClassId} {hs : Nat → Nat} {z : gw_Sh} (F : Nat) {r0 : gw_St} (C : gw_Cx p s m args c gb_Model_clearLine 2 R_Model D cA) (hr : meth.sig.returnType = none) (hk : meth.locks = false) {rc_2 : gw_St → Nat → Int32 → Option gw_St} (k_2 : ∀ (u : gw_St) (t0 : Nat) (x1 : Int32) (H : Heap) (locs : List Loc) (ls : Array Slot), gw_ok z t0 9 → gw_Wx D cA hs z s u H locs → lv_has ls 2 [(0, .ref (hs t0)), (1, .int x1)] → rc_2 u t0 x1 = some r0 → gw_Gv p l e gr_Model_clearLine s m args below meth c D cA hs z r0 H locs ls 2 []) (u : gw_St) (t0 : Nat) (x1 : Int32) (o_t0 : gw_ok z t0 9) {H : Heap} {locs : List Loc} {ls : Array Slot} (hW : gw_Wx D cA hs z s u H locs) (hl : lv_has ls 2 [(0, .ref (hs t0)), (1, .int x1)]) (h : gf_Model_clearLine_S2 F z  rc_2 u t0 x1 = some r0) : gw_Gv p l e gr_Model_clearLine s m args below meth c D cA hs z r0 H locs ls 2 [] := by
  obtain ⟨hx, hb, hml, hown, hts, hK⟩ := id C
  unfold gf_Model_clearLine_S2 at h
  refine lv_iload_n hx hb gd_Model_clearLine_2 rfl (lv_at hl 1 rfl) ?_
  refine lv_bipush (v := 60) hx hb gd_Model_clearLine_3 (by decide) ?_
  refine lv_icmp_gt (tgt := 21) hx hb gd_Model_clearLine_5 (by decide) (fun c1 => ?_) (fun c1 => ?_)
  · have h := gf_t c1 h
    obtain rfl := Option.some.inj h
    exact gw_vret C hW hr hk gd_Model_clearLine_21
  · have h := gf_f c1 h
    refine lv_aload_n hx hb gd_Model_clearLine_8 rfl (lv_at hl 0 rfl) ?_
    obtain ⟨q2, e3, h⟩ := gf_nn_ok h
    refine gw_getr (k := 42) (ty := 11) (ref := R_Model) C hW o_t0 (by decide) rfl gi_Model rfl (by decide) rfl rfl gk_487 gd_Model_clearLine_9 e3 ?_
    have o_q2 := hW.ref (d := 11) o_t0 e3 rfl
    refine lv_iload_n hx hb gd_Model_clearLine_12 rfl (lv_at hl 1 rfl) ?_
    refine lv_lconst (v := 0) hx hb gd_Model_clearLine_13 (by decide) ?_
    obtain ⟨g4, h⟩ := gf_if_ok h
    refine gw_last C hW o_q2 g4 gd_Model_clearLine_14 (fun u5 H locs e6 hW => ?_)
    have h := gf_nm_ok e6 h
    obtain ⟨a7, e8⟩ : ∃ y : Int32, y = x1 + 1 := ⟨_, rfl⟩
    have h := gf_nm_ok e8 h
    refine lv_iinc (v := a7) (lv' := [(1, .int a7), (0, .ref (hs t0))]) hx hb gd_Model_clearLine_15 hl (k := 1) rfl (by rw [e8]; rfl) (by decide) rfl (fun ls hl => ?_)
    refine lv_goto (tgt := 2) hx hb gd_Model_clearLine_18 (by decide) ?_
    exact k_2 u5 t0 a7 _ _ _ o_t0 hW (lv_sub hl [1, 0] rfl) h
set_option maxHeartbeats 4000000 in
set_option maxRecDepth 20000 in
theorem gx_Model_clearLine_L2 {p : Program} {l : Launch} {e : Env} {s : State} {m : MethodId} {args : Array Value} {below : List Frame} {meth : Method} {c : Code} {D : va_G} {cA : Nat → ClassId} {hs : Nat → Nat} {z : gw_Sh} (F : Nat) {r0 : gw_St} (C : gw_Cx p s m args c gb_Model_clearLine 2 R_Model D cA) (hr : meth.sig.returnType = none) (hk : meth.locks = false) : ∀ (n : Nat), ∀ (u : gw_St) (t0 : Nat) (x1 : Int32) (H : Heap) (locs : List Loc) (ls : Array Slot), gw_ok z t0 9 → gw_Wx D cA hs z s u H locs → lv_has ls 2 [(0, .ref (hs t0)), (1, .int x1)] → gf_Model_clearLine_L2 F z  n u t0 x1 = some r0 → gw_Gv p l e gr_Model_clearLine s m args below meth c D cA hs z r0 H locs ls 2 [] := by
  intro n
  induction n with
  | zero =>
    intro u t0 x1 H locs ls o_t0 hW hl h
    cases h
  | succ n ih =>
    intro u t0 x1 H locs ls o_t0 hW hl h
    exact gx_Model_clearLine_S2 F C hr hk  ih u t0 x1 o_t0 hW hl h

set_option maxHeartbeats 4000000 in
set_option maxRecDepth 20000 in
theorem gx_Model_clearLine_b0 {p : Program} {l : Launch} {e : Env} {s : State} {m : MethodId} {args : Array Value} {below : List Frame} {meth : Method} {c : Code} {D : va_G} {cA : Nat → ClassId} {hs : Nat → Nat} {z : gw_Sh} (F : Nat) {r0 : gw_St} (C : gw_Cx p s m args c gb_Model_clearLine 2 R_Model D cA) (hr : meth.sig.returnType = none) (hk : meth.locks = false) (u : gw_St) (t0 : Nat) (o_t0 : gw_ok z t0 9) {H : Heap} {locs : List Loc} {ls : Array Slot} (hW : gw_Wx D cA hs z s u H locs) (hl : lv_has ls 2 [(0, .ref (hs t0))]) (h : gf_Model_clearLine_b0 F z   u t0 = some r0) : gw_Gv p l e gr_Model_clearLine s m args below meth c D cA hs z r0 H locs ls 0 [] := by
  obtain ⟨hx, hb, hml, hown, hts, hK⟩ := id C
  unfold gf_Model_clearLine_b0 at h
  refine lv_iconst (v := 0) hx hb gd_Model_clearLine_0 (by decide) ?_
  refine lv_istore_n (lv' := [(1, .int 0), (0, .ref (hs t0))]) hx hb gd_Model_clearLine_1 rfl hl (by decide) rfl (fun ls hl => ?_)
  exact gx_Model_clearLine_L2 F C hr hk  F u t0 0 _ _ _ o_t0 hW (lv_sub hl [1, 0] rfl) h

set_option maxRecDepth 20000 in
theorem gc_Model_clearLine (l : Launch) {D : va_G} {cA : Nat → ClassId} {hs : Nat → Nat} {z : gw_Sh} (F : Nat) {u : gw_St} {r0 : gw_St} {t0 : Nat} (o_t0 : gw_ok z t0 9) (h : gf_Model_clearLine F z u t0 = some r0) (sz : Nat) : gw_Mv l gy_Model_clearLine gb_Model_clearLine 2 none gr_Model_clearLine [.ref (hs t0)] D cA hs z u sz r0 := by
  refine gw_enter (by decide) (Nat.le_of_ble_eq_true rfl) ?_
  intro p e s m below meth c ls hsz C hW hr hk _ hl
  subst hsz
  exact gx_Model_clearLine_b0 F C hr hk u t0 o_t0 hW (lv_sub hl [0] rfl) h
-- GearDeskModel.put(IJJ)V
def gy_Model_put : MethodName := ⟨R_Model, "put", "(IJJ)V"⟩
abbrev gb_Model_put : ByteArray := prog_11_method_36_code
theorem gk_489 : Cond.code gy_Model_put gb_Model_put 6 none ∈ gt_T := gt_m7 (List.mem_of_getElem? (i := 104) rfl) rfl
def gr_Model_put : Room := gw_rm 1 64
theorem gm_Model_put : gw_Mth gy_Model_put gb_Model_put 6 none 3 := ⟨gk_489, gk_377, ⟨by decide +kernel, by decide +kernel⟩, by decide +kernel⟩
theorem gd_Model_put_0 : decode gb_Model_put 0 = .ok (.aload_n 0, 1) := by decide +kernel
theorem gd_Model_put_1 : decode gb_Model_put 1 = .ok (.getfield 86, 3) := by decide +kernel
theorem gd_Model_put_4 : decode gb_Model_put 4 = .ok (.iload_n 1, 1) := by decide +kernel
theorem gd_Model_put_5 : decode gb_Model_put 5 = .ok (.aload_n 0, 1) := by decide +kernel
theorem gd_Model_put_6 : decode gb_Model_put 6 = .ok (.getfield 86, 3) := by decide +kernel
theorem gd_Model_put_9 : decode gb_Model_put 9 = .ok (.iload_n 1, 1) := by decide +kernel
theorem gd_Model_put_10 : decode gb_Model_put 10 = .ok (.laload, 1) := by decide +kernel
theorem gd_Model_put_11 : decode gb_Model_put 11 = .ok (.lload_n 2, 1) := by decide +kernel
theorem gd_Model_put_12 : decode gb_Model_put 12 = .ok (.ladd, 1) := by decide +kernel
theorem gd_Model_put_13 : decode gb_Model_put 13 = .ok (.lload 4, 2) := by decide +kernel
theorem gd_Model_put_15 : decode gb_Model_put 15 = .ok (.lrem, 1) := by decide +kernel
theorem gd_Model_put_16 : decode gb_Model_put 16 = .ok (.lload 4, 2) := by decide +kernel
theorem gd_Model_put_18 : decode gb_Model_put 18 = .ok (.ladd, 1) := by decide +kernel
theorem gd_Model_put_19 : decode gb_Model_put 19 = .ok (.lload 4, 2) := by decide +kernel
theorem gd_Model_put_21 : decode gb_Model_put 21 = .ok (.lrem, 1) := by decide +kernel
theorem gd_Model_put_22 : decode gb_Model_put 22 = .ok (.lastore, 1) := by decide +kernel
theorem gd_Model_put_23 : decode gb_Model_put 23 = .ok (.return_, 1) := by decide +kernel
def gf_Model_put_b0 (F : Nat) (z : gw_Sh)  (u : gw_St) (t0 : Nat) (x1 : Int32) (y2 : Int64) (y4 : Int64) : Option gw_St :=
  gf_nn (u.2.2 t0 42) fun q1 => gf_nn (u.2.2 t0 42) fun q3 => if (x1 < 0 ∨ z.2.2 q3 ≤ (x1).toNatClampNeg) then none else if y4 = 0 then none else if y4 = 0 then none else if (x1 < 0 ∨ z.2.2 q1 ≤ (x1).toNatClampNeg) then none else gf_nm (gw_wl u q1 (x1).toNatClampNeg (((((u.2.1 q3 (x1).toNatClampNeg) + y2) - ((u.2.1 q3 (x1).toNatClampNeg) + y2) / y4 * y4) + y4) - ((((u.2.1 q3 (x1).toNatClampNeg) + y2) - ((u.2.1 q3 (x1).toNatClampNeg) + y2) / y4 * y4) + y4) / y4 * y4)) fun u9 => some u9
def gf_Model_put (F : Nat) (z : gw_Sh) (u : gw_St) (t0 : Nat) (x1 : Int32) (y2 : Int64) (y4 : Int64) : Option gw_St := gf_Model_put_b0 F z  u t0 x1 y2 y4
set_option maxHeartbeats 4000000 in
set_option maxRecDepth 20000 in
theorem gx_Model_put_b0 {p : Program} {l : Launch} {e : Env} {s : State} {m : MethodId} {args : Array Value} {below : List Frame} {meth : Method} {c : Code} {D : va_G} {cA : Nat → ClassId} {hs : Nat → Nat} {z : gw_Sh} (F : Nat) {r0 : gw_St} (C : gw_Cx p s m args c gb_Model_put 6 R_Model D cA) (hr : meth.sig.returnType = none) (hk : meth.locks = false) (u : gw_St) (t0 : Nat) (x1 : Int32) (y2 : Int64) (y4 : Int64) (o_t0 : gw_ok z t0 9) {H : Heap} {locs : List Loc} {ls : Array Slot} (hW : gw_Wx D cA hs z s u H locs) (hl : lv_has ls 6 [(0, .ref (hs t0)), (1, .int x1), (2, .long y2), (4, .long y4)]) (h : gf_Model_put_b0 F z   u t0 x1 y2 y4 = some r0) : gw_Gv p l e gr_Model_put s m args below meth c D cA hs z r0 H locs ls 0 [] := by
  obtain ⟨hx, hb, hml, hown, hts, hK⟩ := id C
  unfold gf_Model_put_b0 at h
  refine lv_aload_n hx hb gd_Model_put_0 rfl (lv_at hl 0 rfl) ?_
  obtain ⟨q1, e2, h⟩ := gf_nn_ok h
  refine gw_getr (k := 42) (ty := 11) (ref := R_Model) C hW o_t0 (by decide) rfl gi_Model rfl (by decide) rfl rfl gk_487 gd_Model_put_1 e2 ?_
  have o_q1 := hW.ref (d := 11) o_t0 e2 rfl
  refine lv_iload_n hx hb gd_Model_put_4 rfl (lv_at hl 1 rfl) ?_
  refine lv_aload_n hx hb gd_Model_put_5 rfl (lv_at hl 0 rfl) ?_
  obtain ⟨q3, e4, h⟩ := gf_nn_ok h
  refine gw_getr (k := 42) (ty := 11) (ref := R_Model) C hW o_t0 (by decide) rfl gi_Model rfl (by decide) rfl rfl gk_487 gd_Model_put_6 e4 ?_
  have o_q3 := hW.ref (d := 11) o_t0 e4 rfl
  refine lv_iload_n hx hb gd_Model_put_9 rfl (lv_at hl 1 rfl) ?_
  obtain ⟨g5, h⟩ := gf_if_ok h
  refine gw_lald C hW o_q3 g5 gd_Model_put_10 ?_
  refine lv_lload_n hx hb gd_Model_put_11 rfl (lv_at hl 2 rfl) ?_
  refine lv_ladd hx hb gd_Model_put_12 ?_
  refine lv_lload hx hb gd_Model_put_13 (lv_at hl 3 rfl) ?_
  obtain ⟨g6, h⟩ := gf_if_ok h
  refine lv_lrem hx hb gd_Model_put_15 g6 ?_
  refine lv_lload hx hb gd_Model_put_16 (lv_at hl 3 rfl) ?_
  refine lv_ladd hx hb gd_Model_put_18 ?_
  refine lv_lload hx hb gd_Model_put_19 (lv_at hl 3 rfl) ?_
  obtain ⟨g7, h⟩ := gf_if_ok h
  refine lv_lrem hx hb gd_Model_put_21 g7 ?_
  obtain ⟨g8, h⟩ := gf_if_ok h
  refine gw_last C hW o_q1 g8 gd_Model_put_22 (fun u9 H locs e10 hW => ?_)
  have h := gf_nm_ok e10 h
  obtain rfl := Option.some.inj h
  exact gw_vret C hW hr hk gd_Model_put_23

set_option maxRecDepth 20000 in
theorem gc_Model_put (l : Launch) {D : va_G} {cA : Nat → ClassId} {hs : Nat → Nat} {z : gw_Sh} (F : Nat) {u : gw_St} {r0 : gw_St} {t0 : Nat} {x1 : Int32} {y2 : Int64} {y4 : Int64} (o_t0 : gw_ok z t0 9) (h : gf_Model_put F z u t0 x1 y2 y4 = some r0) (sz : Nat) : gw_Mv l gy_Model_put gb_Model_put 6 none gr_Model_put [.ref (hs t0), .int x1, .long y2, .long y4] D cA hs z u sz r0 := by
  refine gw_enter (by decide) (Nat.le_of_ble_eq_true rfl) ?_
  intro p e s m below meth c ls hsz C hW hr hk _ hl
  subst hsz
  exact gx_Model_put_b0 F C hr hk u t0 x1 y2 y4 o_t0 hW (lv_sub hl [0, 1, 2, 3] rfl) h
-- GearDeskModel.lineOf(IJ)V
theorem gk_490 : Cond.methodLink R_Model 233 gy_Model_put ∈ gt_T := gt_m7 (List.mem_of_getElem? (i := 101) rfl) rfl
theorem gk_491 : Cond.instanceMethod gy_Model_put ∈ gt_T := gt_m7 (List.mem_of_getElem? (i := 103) rfl) rfl
theorem gk_492 : Cond.selects R_Model gy_Model_put gy_Model_put ∈ gt_T := gt_p4 (List.mem_of_getElem? (i := 1) rfl) rfl
theorem gk_493 : Cond.methodLink R_Model 230 gy_Model_clearLine ∈ gt_T := gt_m7 (List.mem_of_getElem? (i := 97) rfl) rfl
theorem gk_494 : Cond.instanceMethod gy_Model_clearLine ∈ gt_T := gt_m7 (List.mem_of_getElem? (i := 99) rfl) rfl
theorem gk_495 : Cond.selects R_Model gy_Model_clearLine gy_Model_clearLine ∈ gt_T := gt_p4 (List.mem_of_getElem? (i := 0) rfl) rfl
theorem gk_496 : Cond.constantLong R_Model 237 (-1) ∈ gt_T := gt_m7 (List.mem_of_getElem? (i := 105) rfl) rfl
def gy_Model_lineOf : MethodName := ⟨R_Model, "lineOf", "(IJ)V"⟩
abbrev gb_Model_lineOf : ByteArray := prog_11_method_37_code
theorem gk_497 : Cond.code gy_Model_lineOf gb_Model_lineOf 6 none ∈ gt_T := gt_m7 (List.mem_of_getElem? (i := 96) rfl) rfl
def gr_Model_lineOf : Room := gw_rm 2 89
theorem gm_Model_lineOf : gw_Mth gy_Model_lineOf gb_Model_lineOf 6 none 2 := ⟨gk_497, gk_377, ⟨by decide +kernel, by decide +kernel⟩, by decide +kernel⟩
theorem gd_Model_lineOf_0 : decode gb_Model_lineOf 0 = .ok (.aload_n 0, 1) := by decide +kernel
theorem gd_Model_lineOf_1 : decode gb_Model_lineOf 1 = .ok (.invokevirtual 230, 3) := by decide +kernel
theorem gd_Model_lineOf_4 : decode gb_Model_lineOf 4 = .ok (.aload_n 0, 1) := by decide +kernel
theorem gd_Model_lineOf_5 : decode gb_Model_lineOf 5 = .ok (.getfield 30, 3) := by decide +kernel
theorem gd_Model_lineOf_8 : decode gb_Model_lineOf 8 = .ok (.iload_n 1, 1) := by decide +kernel
theorem gd_Model_lineOf_9 : decode gb_Model_lineOf 9 = .ok (.iaload, 1) := by decide +kernel
theorem gd_Model_lineOf_10 : decode gb_Model_lineOf 10 = .ok (.istore 4, 2) := by decide +kernel
theorem gd_Model_lineOf_12 : decode gb_Model_lineOf 12 = .ok (.aload_n 0, 1) := by decide +kernel
theorem gd_Model_lineOf_13 : decode gb_Model_lineOf 13 = .ok (.getfield 33, 3) := by decide +kernel
theorem gd_Model_lineOf_16 : decode gb_Model_lineOf 16 = .ok (.iload_n 1, 1) := by decide +kernel
theorem gd_Model_lineOf_17 : decode gb_Model_lineOf 17 = .ok (.iaload, 1) := by decide +kernel
theorem gd_Model_lineOf_18 : decode gb_Model_lineOf 18 = .ok (.istore 5, 2) := by decide +kernel
theorem gd_Model_lineOf_20 : decode gb_Model_lineOf 20 = .ok (.aload_n 0, 1) := by decide +kernel
theorem gd_Model_lineOf_21 : decode gb_Model_lineOf 21 = .ok (.getfield 27, 3) := by decide +kernel
theorem gd_Model_lineOf_24 : decode gb_Model_lineOf 24 = .ok (.iload_n 1, 1) := by decide +kernel
theorem gd_Model_lineOf_25 : decode gb_Model_lineOf 25 = .ok (.iaload, 1) := by decide +kernel
theorem gd_Model_lineOf_26 : decode gb_Model_lineOf 26 = .ok (.iconst 2, 1) := by decide +kernel
theorem gd_Model_lineOf_27 : decode gb_Model_lineOf 27 = .ok (.if_icmp .ne 24, 3) := by decide +kernel
theorem gd_Model_lineOf_30 : decode gb_Model_lineOf 30 = .ok (.aload_n 0, 1) := by decide +kernel
theorem gd_Model_lineOf_31 : decode gb_Model_lineOf 31 = .ok (.iload 4, 2) := by decide +kernel
theorem gd_Model_lineOf_33 : decode gb_Model_lineOf 33 = .ok (.lconst 1, 1) := by decide +kernel
theorem gd_Model_lineOf_34 : decode gb_Model_lineOf 34 = .ok (.lload_n 2, 1) := by decide +kernel
theorem gd_Model_lineOf_35 : decode gb_Model_lineOf 35 = .ok (.invokevirtual 233, 3) := by decide +kernel
theorem gd_Model_lineOf_38 : decode gb_Model_lineOf 38 = .ok (.aload_n 0, 1) := by decide +kernel
theorem gd_Model_lineOf_39 : decode gb_Model_lineOf 39 = .ok (.iload 5, 2) := by decide +kernel
theorem gd_Model_lineOf_41 : decode gb_Model_lineOf 41 = .ok (.ldc2_w 237, 3) := by decide +kernel
theorem gd_Model_lineOf_44 : decode gb_Model_lineOf 44 = .ok (.lload_n 2, 1) := by decide +kernel
theorem gd_Model_lineOf_45 : decode gb_Model_lineOf 45 = .ok (.invokevirtual 233, 3) := by decide +kernel
theorem gd_Model_lineOf_48 : decode gb_Model_lineOf 48 = .ok (.goto 125, 3) := by decide +kernel
theorem gd_Model_lineOf_51 : decode gb_Model_lineOf 51 = .ok (.aload_n 0, 1) := by decide +kernel
theorem gd_Model_lineOf_52 : decode gb_Model_lineOf 52 = .ok (.getfield 27, 3) := by decide +kernel
theorem gd_Model_lineOf_55 : decode gb_Model_lineOf 55 = .ok (.iload_n 1, 1) := by decide +kernel
theorem gd_Model_lineOf_56 : decode gb_Model_lineOf 56 = .ok (.iaload, 1) := by decide +kernel
theorem gd_Model_lineOf_57 : decode gb_Model_lineOf 57 = .ok (.iconst 3, 1) := by decide +kernel
theorem gd_Model_lineOf_58 : decode gb_Model_lineOf 58 = .ok (.if_icmp .ne 64, 3) := by decide +kernel
theorem gd_Model_lineOf_61 : decode gb_Model_lineOf 61 = .ok (.aload_n 0, 1) := by decide +kernel
theorem gd_Model_lineOf_62 : decode gb_Model_lineOf 62 = .ok (.iload 4, 2) := by decide +kernel
theorem gd_Model_lineOf_64 : decode gb_Model_lineOf 64 = .ok (.aload_n 0, 1) := by decide +kernel
theorem gd_Model_lineOf_65 : decode gb_Model_lineOf 65 = .ok (.getfield 24, 3) := by decide +kernel
theorem gd_Model_lineOf_68 : decode gb_Model_lineOf 68 = .ok (.iload 4, 2) := by decide +kernel
theorem gd_Model_lineOf_70 : decode gb_Model_lineOf 70 = .ok (.iaload, 1) := by decide +kernel
theorem gd_Model_lineOf_71 : decode gb_Model_lineOf 71 = .ok (.i2l, 1) := by decide +kernel
theorem gd_Model_lineOf_72 : decode gb_Model_lineOf 72 = .ok (.lload_n 2, 1) := by decide +kernel
theorem gd_Model_lineOf_73 : decode gb_Model_lineOf 73 = .ok (.invokevirtual 233, 3) := by decide +kernel
theorem gd_Model_lineOf_76 : decode gb_Model_lineOf 76 = .ok (.aload_n 0, 1) := by decide +kernel
theorem gd_Model_lineOf_77 : decode gb_Model_lineOf 77 = .ok (.iload 5, 2) := by decide +kernel
theorem gd_Model_lineOf_79 : decode gb_Model_lineOf 79 = .ok (.aload_n 0, 1) := by decide +kernel
theorem gd_Model_lineOf_80 : decode gb_Model_lineOf 80 = .ok (.getfield 24, 3) := by decide +kernel
theorem gd_Model_lineOf_83 : decode gb_Model_lineOf 83 = .ok (.iload 5, 2) := by decide +kernel
theorem gd_Model_lineOf_85 : decode gb_Model_lineOf 85 = .ok (.iaload, 1) := by decide +kernel
theorem gd_Model_lineOf_86 : decode gb_Model_lineOf 86 = .ok (.i2l, 1) := by decide +kernel
theorem gd_Model_lineOf_87 : decode gb_Model_lineOf 87 = .ok (.lload_n 2, 1) := by decide +kernel
theorem gd_Model_lineOf_88 : decode gb_Model_lineOf 88 = .ok (.invokevirtual 233, 3) := by decide +kernel
theorem gd_Model_lineOf_91 : decode gb_Model_lineOf 91 = .ok (.aload_n 0, 1) := by decide +kernel
theorem gd_Model_lineOf_92 : decode gb_Model_lineOf 92 = .ok (.aload_n 0, 1) := by decide +kernel
theorem gd_Model_lineOf_93 : decode gb_Model_lineOf 93 = .ok (.getfield 36, 3) := by decide +kernel
theorem gd_Model_lineOf_96 : decode gb_Model_lineOf 96 = .ok (.iload_n 1, 1) := by decide +kernel
theorem gd_Model_lineOf_97 : decode gb_Model_lineOf 97 = .ok (.iaload, 1) := by decide +kernel
theorem gd_Model_lineOf_98 : decode gb_Model_lineOf 98 = .ok (.aload_n 0, 1) := by decide +kernel
theorem gd_Model_lineOf_99 : decode gb_Model_lineOf 99 = .ok (.getfield 24, 3) := by decide +kernel
theorem gd_Model_lineOf_102 : decode gb_Model_lineOf 102 = .ok (.iload 4, 2) := by decide +kernel
theorem gd_Model_lineOf_104 : decode gb_Model_lineOf 104 = .ok (.iaload, 1) := by decide +kernel
theorem gd_Model_lineOf_105 : decode gb_Model_lineOf 105 = .ok (.ineg, 1) := by decide +kernel
theorem gd_Model_lineOf_106 : decode gb_Model_lineOf 106 = .ok (.aload_n 0, 1) := by decide +kernel
theorem gd_Model_lineOf_107 : decode gb_Model_lineOf 107 = .ok (.getfield 24, 3) := by decide +kernel
theorem gd_Model_lineOf_110 : decode gb_Model_lineOf 110 = .ok (.iload 5, 2) := by decide +kernel
theorem gd_Model_lineOf_112 : decode gb_Model_lineOf 112 = .ok (.iaload, 1) := by decide +kernel
theorem gd_Model_lineOf_113 : decode gb_Model_lineOf 113 = .ok (.isub, 1) := by decide +kernel
theorem gd_Model_lineOf_114 : decode gb_Model_lineOf 114 = .ok (.i2l, 1) := by decide +kernel
theorem gd_Model_lineOf_115 : decode gb_Model_lineOf 115 = .ok (.lload_n 2, 1) := by decide +kernel
theorem gd_Model_lineOf_116 : decode gb_Model_lineOf 116 = .ok (.invokevirtual 233, 3) := by decide +kernel
theorem gd_Model_lineOf_119 : decode gb_Model_lineOf 119 = .ok (.goto 54, 3) := by decide +kernel
theorem gd_Model_lineOf_122 : decode gb_Model_lineOf 122 = .ok (.aload_n 0, 1) := by decide +kernel
theorem gd_Model_lineOf_123 : decode gb_Model_lineOf 123 = .ok (.iload 4, 2) := by decide +kernel
theorem gd_Model_lineOf_125 : decode gb_Model_lineOf 125 = .ok (.aload_n 0, 1) := by decide +kernel
theorem gd_Model_lineOf_126 : decode gb_Model_lineOf 126 = .ok (.getfield 24, 3) := by decide +kernel
theorem gd_Model_lineOf_129 : decode gb_Model_lineOf 129 = .ok (.iload 4, 2) := by decide +kernel
theorem gd_Model_lineOf_131 : decode gb_Model_lineOf 131 = .ok (.iaload, 1) := by decide +kernel
theorem gd_Model_lineOf_132 : decode gb_Model_lineOf 132 = .ok (.i2l, 1) := by decide +kernel
theorem gd_Model_lineOf_133 : decode gb_Model_lineOf 133 = .ok (.lload_n 2, 1) := by decide +kernel
theorem gd_Model_lineOf_134 : decode gb_Model_lineOf 134 = .ok (.invokevirtual 233, 3) := by decide +kernel
theorem gd_Model_lineOf_137 : decode gb_Model_lineOf 137 = .ok (.aload_n 0, 1) := by decide +kernel
theorem gd_Model_lineOf_138 : decode gb_Model_lineOf 138 = .ok (.iload 5, 2) := by decide +kernel
theorem gd_Model_lineOf_140 : decode gb_Model_lineOf 140 = .ok (.aload_n 0, 1) := by decide +kernel
theorem gd_Model_lineOf_141 : decode gb_Model_lineOf 141 = .ok (.getfield 27, 3) := by decide +kernel
theorem gd_Model_lineOf_144 : decode gb_Model_lineOf 144 = .ok (.iload_n 1, 1) := by decide +kernel
theorem gd_Model_lineOf_145 : decode gb_Model_lineOf 145 = .ok (.iaload, 1) := by decide +kernel
theorem gd_Model_lineOf_146 : decode gb_Model_lineOf 146 = .ok (.ifCond .ne 14, 3) := by decide +kernel
theorem gd_Model_lineOf_149 : decode gb_Model_lineOf 149 = .ok (.aload_n 0, 1) := by decide +kernel
theorem gd_Model_lineOf_150 : decode gb_Model_lineOf 150 = .ok (.getfield 24, 3) := by decide +kernel
theorem gd_Model_lineOf_153 : decode gb_Model_lineOf 153 = .ok (.iload 5, 2) := by decide +kernel
theorem gd_Model_lineOf_155 : decode gb_Model_lineOf 155 = .ok (.iaload, 1) := by decide +kernel
theorem gd_Model_lineOf_156 : decode gb_Model_lineOf 156 = .ok (.i2l, 1) := by decide +kernel
theorem gd_Model_lineOf_157 : decode gb_Model_lineOf 157 = .ok (.goto 12, 3) := by decide +kernel
theorem gd_Model_lineOf_160 : decode gb_Model_lineOf 160 = .ok (.aload_n 0, 1) := by decide +kernel
theorem gd_Model_lineOf_161 : decode gb_Model_lineOf 161 = .ok (.getfield 24, 3) := by decide +kernel
theorem gd_Model_lineOf_164 : decode gb_Model_lineOf 164 = .ok (.iload 5, 2) := by decide +kernel
theorem gd_Model_lineOf_166 : decode gb_Model_lineOf 166 = .ok (.iaload, 1) := by decide +kernel
theorem gd_Model_lineOf_167 : decode gb_Model_lineOf 167 = .ok (.ineg, 1) := by decide +kernel
theorem gd_Model_lineOf_168 : decode gb_Model_lineOf 168 = .ok (.i2l, 1) := by decide +kernel
theorem gd_Model_lineOf_169 : decode gb_Model_lineOf 169 = .ok (.lload_n 2, 1) := by decide +kernel
theorem gd_Model_lineOf_170 : decode gb_Model_lineOf 170 = .ok (.invokevirtual 233, 3) := by decide +kernel
theorem gd_Model_lineOf_173 : decode gb_Model_lineOf 173 = .ok (.return_, 1) := by decide +kernel
def gf_Model_lineOf_b173 (F : Nat) (z : gw_Sh)  (u : gw_St)  : Option gw_St :=
  some u
def gf_Model_lineOf_b169 (F : Nat) (z : gw_Sh)  (u : gw_St) (y2 : Int64) (st0 : Nat) (sx1 : Int32) (sy2 : Int64) : Option gw_St :=
  (gf_Model_put F z u st0 sx1 sy2 y2).bind fun u1 => gf_Model_lineOf_b173 F z  u1 
def gf_Model_lineOf_b0 (F : Nat) (z : gw_Sh)  (u : gw_St) (t0 : Nat) (x1 : Int32) (y2 : Int64) : Option gw_St :=
  (gf_Model_clearLine F z u t0).bind fun u3 => gf_nn (u3.2.2 t0 23) fun q5 => if (x1 < 0 ∨ z.2.2 q5 ≤ (x1).toNatClampNeg) then none else gf_nm (u3.1 q5 (x1).toNatClampNeg) fun a8 => gf_nn (u3.2.2 t0 24) fun q10 => if (x1 < 0 ∨ z.2.2 q10 ≤ (x1).toNatClampNeg) then none else gf_nm (u3.1 q10 (x1).toNatClampNeg) fun a13 => gf_nn (u3.2.2 t0 22) fun q15 => if (x1 < 0 ∨ z.2.2 q15 ≤ (x1).toNatClampNeg) then none else if (u3.1 q15 (x1).toNatClampNeg) = (2 : Int32) then ((gf_Model_put F z u3 t0 a8 (1 : Int64) y2).bind fun u59 => (gf_Model_put F z u59 t0 a13 (-1 : Int64) y2).bind fun u61 => gf_Model_lineOf_b173 F z  u61 ) else (gf_nn (u3.2.2 t0 22) fun q19 => if (x1 < 0 ∨ z.2.2 q19 ≤ (x1).toNatClampNeg) then none else if (u3.1 q19 (x1).toNatClampNeg) = (3 : Int32) then (gf_nn (u3.2.2 t0 21) fun q38 => if (a8 < 0 ∨ z.2.2 q38 ≤ (a8).toNatClampNeg) then none else (gf_Model_put F z u3 t0 a8 (((u3.1 q38 (a8).toNatClampNeg)).toInt64) y2).bind fun u41 => gf_nn (u41.2.2 t0 21) fun q43 => if (a13 < 0 ∨ z.2.2 q43 ≤ (a13).toNatClampNeg) then none else (gf_Model_put F z u41 t0 a13 (((u41.1 q43 (a13).toNatClampNeg)).toInt64) y2).bind fun u46 => gf_nn (u46.2.2 t0 25) fun q48 => if (x1 < 0 ∨ z.2.2 q48 ≤ (x1).toNatClampNeg) then none else gf_nn (u46.2.2 t0 21) fun q51 => if (a8 < 0 ∨ z.2.2 q51 ≤ (a8).toNatClampNeg) then none else gf_nn (u46.2.2 t0 21) fun q54 => if (a13 < 0 ∨ z.2.2 q54 ≤ (a13).toNatClampNeg) then none else (gf_Model_put F z u46 t0 (u46.1 q48 (x1).toNatClampNeg) ((((-(u46.1 q51 (a8).toNatClampNeg)) - (u46.1 q54 (a13).toNatClampNeg))).toInt64) y2).bind fun u57 => gf_Model_lineOf_b173 F z  u57 ) else (gf_nn (u3.2.2 t0 21) fun q23 => if (a8 < 0 ∨ z.2.2 q23 ≤ (a8).toNatClampNeg) then none else (gf_Model_put F z u3 t0 a8 (((u3.1 q23 (a8).toNatClampNeg)).toInt64) y2).bind fun u26 => gf_nn (u26.2.2 t0 22) fun q28 => if (x1 < 0 ∨ z.2.2 q28 ≤ (x1).toNatClampNeg) then none else if (u26.1 q28 (x1).toNatClampNeg) = 0 then (gf_nn (u26.2.2 t0 21) fun q35 => if (a13 < 0 ∨ z.2.2 q35 ≤ (a13).toNatClampNeg) then none else gf_Model_lineOf_b169 F z  u26 y2 t0 a13 (((u26.1 q35 (a13).toNatClampNeg)).toInt64)) else (gf_nn (u26.2.2 t0 21) fun q32 => if (a13 < 0 ∨ z.2.2 q32 ≤ (a13).toNatClampNeg) then none else gf_Model_lineOf_b169 F z  u26 y2 t0 a13 (((-(u26.1 q32 (a13).toNatClampNeg))).toInt64))))
def gf_Model_lineOf (F : Nat) (z : gw_Sh) (u : gw_St) (t0 : Nat) (x1 : Int32) (y2 : Int64) : Option gw_St := gf_Model_lineOf_b0 F z  u t0 x1 y2
set_option maxHeartbeats 4000000 in
set_option maxRecDepth 20000 in
theorem gx_Model_lineOf_b173 {p : Program} {l : Launch} {e : Env} {s : State} {m : MethodId} {args : Array Value} {below : List Frame} {meth : Method} {c : Code} {D : va_G} {cA : Nat → ClassId} {hs : Nat → Nat} {z : gw_Sh} (F : Nat) {r0 : gw_St} (C : gw_Cx p s m args c gb_Model_lineOf 6 R_Model D cA) (hr : meth.sig.returnType = none) (hk : meth.locks = false) (u : gw_St)   {H : Heap} {locs : List Loc} {ls : Array Slot} (hW : gw_Wx D cA hs z s u H locs) (hl : lv_has ls 6 []) (h : gf_Model_lineOf_b173 F z   u  = some r0) : gw_Gv p l e gr_Model_lineOf s m args below meth c D cA hs z r0 H locs ls 173 [] := by
  obtain ⟨hx, hb, hml, hown, hts, hK⟩ := id C
  unfold gf_Model_lineOf_b173 at h
  obtain rfl := Option.some.inj h
  exact gw_vret C hW hr hk gd_Model_lineOf_173

set_option maxHeartbeats 4000000 in
set_option maxRecDepth 20000 in
theorem gx_Model_lineOf_b169 {p : Program} {l : Launch} {e : Env} {s : State} {m : MethodId} {args : Array Value} {below : List Frame} {meth : Method} {c : Code} {D : va_G} {cA : Nat → ClassId} {hs : Nat → Nat} {z : gw_Sh} (F : Nat) {r0 : gw_St} (C : gw_Cx p s m args c gb_Model_lineOf 6 R_Model D cA) (hr : meth.sig.returnType = none) (hk : meth.locks = false) (u : gw_St) (y2 : Int64) (st0 : Nat) (sx1 : Int32) (sy2 : Int64) (o_st0 : gw_ok z st0 9) {H : Heap} {locs : List Loc} {ls : Array Slot} (hW : gw_Wx D cA hs z s u H locs) (hl : lv_has ls 6 [(2, .long y2)]) (h : gf_Model_lineOf_b169 F z   u y2 st0 sx1 sy2 = some r0) : gw_Gv p l e gr_Model_lineOf s m args below meth c D cA hs z r0 H locs ls 169 [.long sy2, .int sx1, .ref (hs st0)] := by
  obtain ⟨hx, hb, hml, hown, hts, hK⟩ := id C
  unfold gf_Model_lineOf_b169 at h
  refine lv_lload_n hx hb gd_Model_lineOf_169 rfl (lv_at hl 0 rfl) ?_
  obtain ⟨u1, d2, h⟩ := gf_bd_ok h
  refine gw_callVv (K := R_Model) (As := [.int sx1, .long sy2, .long y2]) (rest := []) C hW (fun _ h => Or.inr h) hl.1 gm_Model_put (gc_Model_put l F o_st0 d2 _) gk_490 gk_491 gk_492 o_st0 (by decide) rfl rfl rfl ⟨Nat.le_of_ble_eq_true rfl, Nat.le_of_ble_eq_true rfl⟩ ⟨Nat.zero_le _, Nat.zero_le _⟩ rfl rfl (Nat.le_of_ble_eq_true rfl) gd_Model_lineOf_170 (fun H locs hW => ?_)
  exact gx_Model_lineOf_b173 F C hr hk  u1   hW (lv_sub hl [] rfl) h

set_option maxHeartbeats 4000000 in
set_option maxRecDepth 20000 in
theorem gx_Model_lineOf_b0 {p : Program} {l : Launch} {e : Env} {s : State} {m : MethodId} {args : Array Value} {below : List Frame} {meth : Method} {c : Code} {D : va_G} {cA : Nat → ClassId} {hs : Nat → Nat} {z : gw_Sh} (F : Nat) {r0 : gw_St} (C : gw_Cx p s m args c gb_Model_lineOf 6 R_Model D cA) (hr : meth.sig.returnType = none) (hk : meth.locks = false) (u : gw_St) (t0 : Nat) (x1 : Int32) (y2 : Int64) (o_t0 : gw_ok z t0 9) {H : Heap} {locs : List Loc} {ls : Array Slot} (hW : gw_Wx D cA hs z s u H locs) (hl : lv_has ls 6 [(0, .ref (hs t0)), (1, .int x1), (2, .long y2)]) (h : gf_Model_lineOf_b0 F z   u t0 x1 y2 = some r0) : gw_Gv p l e gr_Model_lineOf s m args below meth c D cA hs z r0 H locs ls 0 [] := by
  obtain ⟨hx, hb, hml, hown, hts, hK⟩ := id C
  unfold gf_Model_lineOf_b0 at h
  refine lv_aload_n hx hb gd_Model_lineOf_0 rfl (lv_at hl 0 rfl) ?_
  obtain ⟨u3, d4, h⟩ := gf_bd_ok h
  refine gw_callVv (K := R_Model) (As := []) (rest := []) C hW (fun _ h => Or.inr h) hl.1 gm_Model_clearLine (gc_Model_clearLine l F o_t0 d4 _) gk_493 gk_494 gk_495 o_t0 (by decide) rfl rfl rfl ⟨Nat.le_of_ble_eq_true rfl, Nat.le_of_ble_eq_true rfl⟩ ⟨Nat.zero_le _, Nat.zero_le _⟩ rfl rfl (Nat.le_of_ble_eq_true rfl) gd_Model_lineOf_1 (fun H locs hW => ?_)
  refine lv_aload_n hx hb gd_Model_lineOf_4 rfl (lv_at hl 0 rfl) ?_
  obtain ⟨q5, e6, h⟩ := gf_nn_ok h
  refine gw_getr (k := 23) (ty := 10) (ref := R_Model) C hW o_t0 (by decide) rfl gi_Model rfl (by decide) rfl rfl gk_468 gd_Model_lineOf_5 e6 ?_
  have o_q5 := hW.ref (d := 10) o_t0 e6 rfl
  refine lv_iload_n hx hb gd_Model_lineOf_8 rfl (lv_at hl 1 rfl) ?_
  obtain ⟨g7, h⟩ := gf_if_ok h
  refine gw_iald C hW o_q5 g7 gd_Model_lineOf_9 ?_
  refine lv_topi (fun a8 e9 => ?_)
  have h := gf_nm_ok e9 h
  refine lv_istore (lv' := [(4, .int a8), (0, .ref (hs t0)), (1, .int x1), (2, .long y2)]) hx hb gd_Model_lineOf_10 hl (by decide) rfl (fun ls hl => ?_)
  refine lv_aload_n hx hb gd_Model_lineOf_12 rfl (lv_at hl 1 rfl) ?_
  obtain ⟨q10, e11, h⟩ := gf_nn_ok h
  refine gw_getr (k := 24) (ty := 10) (ref := R_Model) C hW o_t0 (by decide) rfl gi_Model rfl (by decide) rfl rfl gk_469 gd_Model_lineOf_13 e11 ?_
  have o_q10 := hW.ref (d := 10) o_t0 e11 rfl
  refine lv_iload_n hx hb gd_Model_lineOf_16 rfl (lv_at hl 2 rfl) ?_
  obtain ⟨g12, h⟩ := gf_if_ok h
  refine gw_iald C hW o_q10 g12 gd_Model_lineOf_17 ?_
  refine lv_topi (fun a13 e14 => ?_)
  have h := gf_nm_ok e14 h
  refine lv_istore (lv' := [(5, .int a13), (4, .int a8), (0, .ref (hs t0)), (1, .int x1), (2, .long y2)]) hx hb gd_Model_lineOf_18 hl (by decide) rfl (fun ls hl => ?_)
  refine lv_aload_n hx hb gd_Model_lineOf_20 rfl (lv_at hl 2 rfl) ?_
  obtain ⟨q15, e16, h⟩ := gf_nn_ok h
  refine gw_getr (k := 22) (ty := 10) (ref := R_Model) C hW o_t0 (by decide) rfl gi_Model rfl (by decide) rfl rfl gk_467 gd_Model_lineOf_21 e16 ?_
  have o_q15 := hW.ref (d := 10) o_t0 e16 rfl
  refine lv_iload_n hx hb gd_Model_lineOf_24 rfl (lv_at hl 3 rfl) ?_
  obtain ⟨g17, h⟩ := gf_if_ok h
  refine gw_iald C hW o_q15 g17 gd_Model_lineOf_25 ?_
  refine lv_iconst (v := 2) hx hb gd_Model_lineOf_26 (by decide) ?_
  refine lv_icmp_ne (tgt := 51) hx hb gd_Model_lineOf_27 (by decide) (fun c18 => ?_) (fun c18 => ?_)
  · have h := gf_f c18 h
    refine lv_aload_n hx hb gd_Model_lineOf_51 rfl (lv_at hl 2 rfl) ?_
    obtain ⟨q19, e20, h⟩ := gf_nn_ok h
    refine gw_getr (k := 22) (ty := 10) (ref := R_Model) C hW o_t0 (by decide) rfl gi_Model rfl (by decide) rfl rfl gk_467 gd_Model_lineOf_52 e20 ?_
    have o_q19 := hW.ref (d := 10) o_t0 e20 rfl
    refine lv_iload_n hx hb gd_Model_lineOf_55 rfl (lv_at hl 3 rfl) ?_
    obtain ⟨g21, h⟩ := gf_if_ok h
    refine gw_iald C hW o_q19 g21 gd_Model_lineOf_56 ?_
    refine lv_iconst (v := 3) hx hb gd_Model_lineOf_57 (by decide) ?_
    refine lv_icmp_ne (tgt := 122) hx hb gd_Model_lineOf_58 (by decide) (fun c22 => ?_) (fun c22 => ?_)
    · have h := gf_f c22 h
      refine lv_aload_n hx hb gd_Model_lineOf_122 rfl (lv_at hl 2 rfl) ?_
      refine lv_iload hx hb gd_Model_lineOf_123 (lv_at hl 1 rfl) ?_
      refine lv_aload_n hx hb gd_Model_lineOf_125 rfl (lv_at hl 2 rfl) ?_
      obtain ⟨q23, e24, h⟩ := gf_nn_ok h
      refine gw_getr (k := 21) (ty := 10) (ref := R_Model) C hW o_t0 (by decide) rfl gi_Model rfl (by decide) rfl rfl gk_462 gd_Model_lineOf_126 e24 ?_
      have o_q23 := hW.ref (d := 10) o_t0 e24 rfl
      refine lv_iload hx hb gd_Model_lineOf_129 (lv_at hl 1 rfl) ?_
      obtain ⟨g25, h⟩ := gf_if_ok h
      refine gw_iald C hW o_q23 g25 gd_Model_lineOf_131 ?_
      refine lv_i2l hx hb gd_Model_lineOf_132 rfl ?_
      refine lv_lload_n hx hb gd_Model_lineOf_133 rfl (lv_at hl 4 rfl) ?_
      obtain ⟨u26, d27, h⟩ := gf_bd_ok h
      refine gw_callVv (K := R_Model) (As := [.int a8, .long (((u3.1 q23 (a8).toNatClampNeg)).toInt64), .long y2]) (rest := []) C hW (fun _ h => Or.inr h) hl.1 gm_Model_put (gc_Model_put l F o_t0 d27 _) gk_490 gk_491 gk_492 o_t0 (by decide) rfl rfl rfl ⟨Nat.le_of_ble_eq_true rfl, Nat.le_of_ble_eq_true rfl⟩ ⟨Nat.zero_le _, Nat.zero_le _⟩ rfl rfl (Nat.le_of_ble_eq_true rfl) gd_Model_lineOf_134 (fun H locs hW => ?_)
      refine lv_aload_n hx hb gd_Model_lineOf_137 rfl (lv_at hl 2 rfl) ?_
      refine lv_iload hx hb gd_Model_lineOf_138 (lv_at hl 0 rfl) ?_
      refine lv_aload_n hx hb gd_Model_lineOf_140 rfl (lv_at hl 2 rfl) ?_
      obtain ⟨q28, e29, h⟩ := gf_nn_ok h
      refine gw_getr (k := 22) (ty := 10) (ref := R_Model) C hW o_t0 (by decide) rfl gi_Model rfl (by decide) rfl rfl gk_467 gd_Model_lineOf_141 e29 ?_
      have o_q28 := hW.ref (d := 10) o_t0 e29 rfl
      refine lv_iload_n hx hb gd_Model_lineOf_144 rfl (lv_at hl 3 rfl) ?_
      obtain ⟨g30, h⟩ := gf_if_ok h
      refine gw_iald C hW o_q28 g30 gd_Model_lineOf_145 ?_
      refine lv_if_ne (tgt := 160) hx hb gd_Model_lineOf_146 (by decide) (fun c31 => ?_) (fun c31 => ?_)
      · have h := gf_f c31 h
        refine lv_aload_n hx hb gd_Model_lineOf_160 rfl (lv_at hl 2 rfl) ?_
        obtain ⟨q32, e33, h⟩ := gf_nn_ok h
        refine gw_getr (k := 21) (ty := 10) (ref := R_Model) C hW o_t0 (by decide) rfl gi_Model rfl (by decide) rfl rfl gk_462 gd_Model_lineOf_161 e33 ?_
        have o_q32 := hW.ref (d := 10) o_t0 e33 rfl
        refine lv_iload hx hb gd_Model_lineOf_164 (lv_at hl 0 rfl) ?_
        obtain ⟨g34, h⟩ := gf_if_ok h
        refine gw_iald C hW o_q32 g34 gd_Model_lineOf_166 ?_
        refine lv_ineg hx hb gd_Model_lineOf_167 ?_
        refine lv_i2l hx hb gd_Model_lineOf_168 rfl ?_
        exact gx_Model_lineOf_b169 F C hr hk  u26 y2 t0 a13 (((-(u26.1 q32 (a13).toNatClampNeg))).toInt64) o_t0 hW (lv_sub hl [4] rfl) h
      · have h := gf_t c31 h
        refine lv_aload_n hx hb gd_Model_lineOf_149 rfl (lv_at hl 2 rfl) ?_
        obtain ⟨q35, e36, h⟩ := gf_nn_ok h
        refine gw_getr (k := 21) (ty := 10) (ref := R_Model) C hW o_t0 (by decide) rfl gi_Model rfl (by decide) rfl rfl gk_462 gd_Model_lineOf_150 e36 ?_
        have o_q35 := hW.ref (d := 10) o_t0 e36 rfl
        refine lv_iload hx hb gd_Model_lineOf_153 (lv_at hl 0 rfl) ?_
        obtain ⟨g37, h⟩ := gf_if_ok h
        refine gw_iald C hW o_q35 g37 gd_Model_lineOf_155 ?_
        refine lv_i2l hx hb gd_Model_lineOf_156 rfl ?_
        refine lv_goto (tgt := 169) hx hb gd_Model_lineOf_157 (by decide) ?_
        exact gx_Model_lineOf_b169 F C hr hk  u26 y2 t0 a13 (((u26.1 q35 (a13).toNatClampNeg)).toInt64) o_t0 hW (lv_sub hl [4] rfl) h
    · have h := gf_t c22 h
      refine lv_aload_n hx hb gd_Model_lineOf_61 rfl (lv_at hl 2 rfl) ?_
      refine lv_iload hx hb gd_Model_lineOf_62 (lv_at hl 1 rfl) ?_
      refine lv_aload_n hx hb gd_Model_lineOf_64 rfl (lv_at hl 2 rfl) ?_
      obtain ⟨q38, e39, h⟩ := gf_nn_ok h
      refine gw_getr (k := 21) (ty := 10) (ref := R_Model) C hW o_t0 (by decide) rfl gi_Model rfl (by decide) rfl rfl gk_462 gd_Model_lineOf_65 e39 ?_
      have o_q38 := hW.ref (d := 10) o_t0 e39 rfl
      refine lv_iload hx hb gd_Model_lineOf_68 (lv_at hl 1 rfl) ?_
      obtain ⟨g40, h⟩ := gf_if_ok h
      refine gw_iald C hW o_q38 g40 gd_Model_lineOf_70 ?_
      refine lv_i2l hx hb gd_Model_lineOf_71 rfl ?_
      refine lv_lload_n hx hb gd_Model_lineOf_72 rfl (lv_at hl 4 rfl) ?_
      obtain ⟨u41, d42, h⟩ := gf_bd_ok h
      refine gw_callVv (K := R_Model) (As := [.int a8, .long (((u3.1 q38 (a8).toNatClampNeg)).toInt64), .long y2]) (rest := []) C hW (fun _ h => Or.inr h) hl.1 gm_Model_put (gc_Model_put l F o_t0 d42 _) gk_490 gk_491 gk_492 o_t0 (by decide) rfl rfl rfl ⟨Nat.le_of_ble_eq_true rfl, Nat.le_of_ble_eq_true rfl⟩ ⟨Nat.zero_le _, Nat.zero_le _⟩ rfl rfl (Nat.le_of_ble_eq_true rfl) gd_Model_lineOf_73 (fun H locs hW => ?_)
      refine lv_aload_n hx hb gd_Model_lineOf_76 rfl (lv_at hl 2 rfl) ?_
      refine lv_iload hx hb gd_Model_lineOf_77 (lv_at hl 0 rfl) ?_
      refine lv_aload_n hx hb gd_Model_lineOf_79 rfl (lv_at hl 2 rfl) ?_
      obtain ⟨q43, e44, h⟩ := gf_nn_ok h
      refine gw_getr (k := 21) (ty := 10) (ref := R_Model) C hW o_t0 (by decide) rfl gi_Model rfl (by decide) rfl rfl gk_462 gd_Model_lineOf_80 e44 ?_
      have o_q43 := hW.ref (d := 10) o_t0 e44 rfl
      refine lv_iload hx hb gd_Model_lineOf_83 (lv_at hl 0 rfl) ?_
      obtain ⟨g45, h⟩ := gf_if_ok h
      refine gw_iald C hW o_q43 g45 gd_Model_lineOf_85 ?_
      refine lv_i2l hx hb gd_Model_lineOf_86 rfl ?_
      refine lv_lload_n hx hb gd_Model_lineOf_87 rfl (lv_at hl 4 rfl) ?_
      obtain ⟨u46, d47, h⟩ := gf_bd_ok h
      refine gw_callVv (K := R_Model) (As := [.int a13, .long (((u41.1 q43 (a13).toNatClampNeg)).toInt64), .long y2]) (rest := []) C hW (fun _ h => Or.inr h) hl.1 gm_Model_put (gc_Model_put l F o_t0 d47 _) gk_490 gk_491 gk_492 o_t0 (by decide) rfl rfl rfl ⟨Nat.le_of_ble_eq_true rfl, Nat.le_of_ble_eq_true rfl⟩ ⟨Nat.zero_le _, Nat.zero_le _⟩ rfl rfl (Nat.le_of_ble_eq_true rfl) gd_Model_lineOf_88 (fun H locs hW => ?_)
      refine lv_aload_n hx hb gd_Model_lineOf_91 rfl (lv_at hl 2 rfl) ?_
      refine lv_aload_n hx hb gd_Model_lineOf_92 rfl (lv_at hl 2 rfl) ?_
      obtain ⟨q48, e49, h⟩ := gf_nn_ok h
      refine gw_getr (k := 25) (ty := 10) (ref := R_Model) C hW o_t0 (by decide) rfl gi_Model rfl (by decide) rfl rfl gk_470 gd_Model_lineOf_93 e49 ?_
      have o_q48 := hW.ref (d := 10) o_t0 e49 rfl
      refine lv_iload_n hx hb gd_Model_lineOf_96 rfl (lv_at hl 3 rfl) ?_
      obtain ⟨g50, h⟩ := gf_if_ok h
      refine gw_iald C hW o_q48 g50 gd_Model_lineOf_97 ?_
      refine lv_aload_n hx hb gd_Model_lineOf_98 rfl (lv_at hl 2 rfl) ?_
      obtain ⟨q51, e52, h⟩ := gf_nn_ok h
      refine gw_getr (k := 21) (ty := 10) (ref := R_Model) C hW o_t0 (by decide) rfl gi_Model rfl (by decide) rfl rfl gk_462 gd_Model_lineOf_99 e52 ?_
      have o_q51 := hW.ref (d := 10) o_t0 e52 rfl
      refine lv_iload hx hb gd_Model_lineOf_102 (lv_at hl 1 rfl) ?_
      obtain ⟨g53, h⟩ := gf_if_ok h
      refine gw_iald C hW o_q51 g53 gd_Model_lineOf_104 ?_
      refine lv_ineg hx hb gd_Model_lineOf_105 ?_
      refine lv_aload_n hx hb gd_Model_lineOf_106 rfl (lv_at hl 2 rfl) ?_
      obtain ⟨q54, e55, h⟩ := gf_nn_ok h
      refine gw_getr (k := 21) (ty := 10) (ref := R_Model) C hW o_t0 (by decide) rfl gi_Model rfl (by decide) rfl rfl gk_462 gd_Model_lineOf_107 e55 ?_
      have o_q54 := hW.ref (d := 10) o_t0 e55 rfl
      refine lv_iload hx hb gd_Model_lineOf_110 (lv_at hl 0 rfl) ?_
      obtain ⟨g56, h⟩ := gf_if_ok h
      refine gw_iald C hW o_q54 g56 gd_Model_lineOf_112 ?_
      refine lv_isub hx hb gd_Model_lineOf_113 ?_
      refine lv_i2l hx hb gd_Model_lineOf_114 rfl ?_
      refine lv_lload_n hx hb gd_Model_lineOf_115 rfl (lv_at hl 4 rfl) ?_
      obtain ⟨u57, d58, h⟩ := gf_bd_ok h
      refine gw_callVv (K := R_Model) (As := [.int (u46.1 q48 (x1).toNatClampNeg), .long ((((-(u46.1 q51 (a8).toNatClampNeg)) - (u46.1 q54 (a13).toNatClampNeg))).toInt64), .long y2]) (rest := []) C hW (fun _ h => Or.inr h) hl.1 gm_Model_put (gc_Model_put l F o_t0 d58 _) gk_490 gk_491 gk_492 o_t0 (by decide) rfl rfl rfl ⟨Nat.le_of_ble_eq_true rfl, Nat.le_of_ble_eq_true rfl⟩ ⟨Nat.zero_le _, Nat.zero_le _⟩ rfl rfl (Nat.le_of_ble_eq_true rfl) gd_Model_lineOf_116 (fun H locs hW => ?_)
      refine lv_goto (tgt := 173) hx hb gd_Model_lineOf_119 (by decide) ?_
      exact gx_Model_lineOf_b173 F C hr hk  u57   hW (lv_sub hl [] rfl) h
  · have h := gf_t c18 h
    refine lv_aload_n hx hb gd_Model_lineOf_30 rfl (lv_at hl 2 rfl) ?_
    refine lv_iload hx hb gd_Model_lineOf_31 (lv_at hl 1 rfl) ?_
    refine lv_lconst (v := 1) hx hb gd_Model_lineOf_33 (by decide) ?_
    refine lv_lload_n hx hb gd_Model_lineOf_34 rfl (lv_at hl 4 rfl) ?_
    obtain ⟨u59, d60, h⟩ := gf_bd_ok h
    refine gw_callVv (K := R_Model) (As := [.int a8, .long (1 : Int64), .long y2]) (rest := []) C hW (fun _ h => Or.inr h) hl.1 gm_Model_put (gc_Model_put l F o_t0 d60 _) gk_490 gk_491 gk_492 o_t0 (by decide) rfl rfl rfl ⟨Nat.le_of_ble_eq_true rfl, Nat.le_of_ble_eq_true rfl⟩ ⟨Nat.zero_le _, Nat.zero_le _⟩ rfl rfl (Nat.le_of_ble_eq_true rfl) gd_Model_lineOf_35 (fun H locs hW => ?_)
    refine lv_aload_n hx hb gd_Model_lineOf_38 rfl (lv_at hl 2 rfl) ?_
    refine lv_iload hx hb gd_Model_lineOf_39 (lv_at hl 0 rfl) ?_
    refine lv_ldc2 (v := (-1)) hx hb hown (hts _ gk_496) gd_Model_lineOf_41 ?_
    refine lv_lload_n hx hb gd_Model_lineOf_44 rfl (lv_at hl 4 rfl) ?_
    obtain ⟨u61, d62, h⟩ := gf_bd_ok h
    refine gw_callVv (K := R_Model) (As := [.int a13, .long (-1 : Int64), .long y2]) (rest := []) C hW (fun _ h => Or.inr h) hl.1 gm_Model_put (gc_Model_put l F o_t0 d62 _) gk_490 gk_491 gk_492 o_t0 (by decide) rfl rfl rfl ⟨Nat.le_of_ble_eq_true rfl, Nat.le_of_ble_eq_true rfl⟩ ⟨Nat.zero_le _, Nat.zero_le _⟩ rfl rfl (Nat.le_of_ble_eq_true rfl) gd_Model_lineOf_45 (fun H locs hW => ?_)
    refine lv_goto (tgt := 173) hx hb gd_Model_lineOf_48 (by decide) ?_
    exact gx_Model_lineOf_b173 F C hr hk  u61   hW (lv_sub hl [] rfl) h

set_option maxRecDepth 20000 in
theorem gc_Model_lineOf (l : Launch) {D : va_G} {cA : Nat → ClassId} {hs : Nat → Nat} {z : gw_Sh} (F : Nat) {u : gw_St} {r0 : gw_St} {t0 : Nat} {x1 : Int32} {y2 : Int64} (o_t0 : gw_ok z t0 9) (h : gf_Model_lineOf F z u t0 x1 y2 = some r0) (sz : Nat) : gw_Mv l gy_Model_lineOf gb_Model_lineOf 6 none gr_Model_lineOf [.ref (hs t0), .int x1, .long y2] D cA hs z u sz r0 := by
  refine gw_enter (by decide) (Nat.le_of_ble_eq_true rfl) ?_
  intro p e s m below meth c ls hsz C hW hr hk _ hl
  subst hsz
  exact gx_Model_lineOf_b0 F C hr hk u t0 x1 y2 o_t0 hW (lv_sub hl [0, 1, 2] rfl) h
