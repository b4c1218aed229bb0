-- GearDesk$Speeds.forget()V
theorem gk_127 : Cond.fieldLink R_Speeds 9 R_Speeds "known" "[Z" ∈ gt_T := gt_m2 (List.mem_of_getElem? (i := 80) rfl) rfl
theorem gk_128 : Cond.initialized R_Speeds ∈ gt_T := gt_m1 (List.mem_of_getElem? (i := 11) rfl) rfl
def gy_Speeds_forget : MethodName := ⟨R_Speeds, "forget", "()V"⟩
abbrev gb_Speeds_forget : ByteArray := prog_6_method_2_code
theorem gk_129 : Cond.code gy_Speeds_forget gb_Speeds_forget 2 none ∈ gt_T := gt_m2 (List.mem_of_getElem? (i := 134) rfl) rfl
def gr_Speeds_forget : Room := gw_rm 1 64
theorem gm_Speeds_forget : gw_Mth gy_Speeds_forget gb_Speeds_forget 2 none 0 := ⟨gk_129, gk_128, ⟨by decide +kernel, by decide +kernel⟩, by decide +kernel⟩
theorem gd_Speeds_forget_0 : decode gb_Speeds_forget 0 = .ok (.iconst 0, 1) := by decide +kernel
theorem gd_Speeds_forget_1 : decode gb_Speeds_forget 1 = .ok (.istore_n 1, 1) := by decide +kernel
theorem gd_Speeds_forget_2 : decode gb_Speeds_forget 2 = .ok (.iload_n 1, 1) := by decide +kernel
theorem gd_Speeds_forget_3 : decode gb_Speeds_forget 3 = .ok (.bipush 60, 2) := by decide +kernel
theorem gd_Speeds_forget_5 : decode gb_Speeds_forget 5 = .ok (.if_icmp .ge 16, 3) := by decide +kernel
theorem gd_Speeds_forget_8 : decode gb_Speeds_forget 8 = .ok (.aload_n 0, 1) := by decide +kernel
theorem gd_Speeds_forget_9 : decode gb_Speeds_forget 9 = .ok (.getfield 9, 3) := by decide +kernel
theorem gd_Speeds_forget_12 : decode gb_Speeds_forget 12 = .ok (.iload_n 1, 1) := by decide +kernel
theorem gd_Speeds_forget_13 : decode gb_Speeds_forget 13 = .ok (.iconst 0, 1) := by decide +kernel
theorem gd_Speeds_forget_14 : decode gb_Speeds_forget 14 = .ok (.bastore, 1) := by decide +kernel
theorem gd_Speeds_forget_15 : decode gb_Speeds_forget 15 = .ok (.iinc 1 1, 3) := by decide +kernel
theorem gd_Speeds_forget_18 : decode gb_Speeds_forget 18 = .ok (.goto (-16), 3) := by decide +kernel
theorem gd_Speeds_forget_21 : decode gb_Speeds_forget 21 = .ok (.return_, 1) := by decide +kernel
def gf_Speeds_forget_S2 (F : Nat) (z : gw_Sh)  (rc_2 : gw_St → Nat → Int32 → Option gw_St) (u : gw_St) (t0 : Nat) (x1 : Int32) : Option gw_St :=
  if (60 : Int32) ≤ x1 then (some u) else (gf_nn (u.2.2 t0 0) fun q2 => if (x1 < 0 ∨ z.2.2 q2 ≤ (x1).toNatClampNeg) then none else gf_nm (gw_wi u q2 (x1).toNatClampNeg (vp_nar .boolean (0 : Int32))) fun u5 => gf_nm (x1 + 1) fun a7 => rc_2 u5 t0 a7)
def gf_Speeds_forget_L2 (F : Nat) (z : gw_Sh)  : Nat → gw_St → Nat → Int32 → Option gw_St
  | 0 => fun _ _ _ => none
  | n + 1 => fun u t0 x1 => gf_Speeds_forget_S2 F z  (gf_Speeds_forget_L2 F z  n) u t0 x1
def gf_Speeds_forget_b0 (F : Nat) (z : gw_Sh)  (u : gw_St) (t0 : Nat) : Option gw_St :=
  gf_Speeds_forget_L2 F z  F u t0 0
def gf_Speeds_forget (F : Nat) (z : gw_Sh) (u : gw_St) (t0 : Nat) : Option gw_St := gf_Speeds_forget_b0 F z  u t0
set_option maxHeartbeats 4000000 in
set_option maxRecDepth 20000 in
theorem gx_Speeds_forget_S2 {p : Program} {l : Launch} {e : Env} {s : State} {m : MethodId} {args : Array Value} {below : List Frame} {meth : Method} {c : Code} {D : va_G} {cA : Nat → ClassId} {hs : Nat → Nat} {z : gw_Sh} (F : Nat) {r0 : gw_St} (C : gw_Cx p s m args c gb_Speeds_forget 2 R_Speeds D cA) (hr : meth.sig.returnType = none) (hk : meth.locks = false) {rc_2 : gw_St → Nat → Int32 → Option gw_St} (k_2 : ∀ (u : gw_St) (t0 : Nat) (x1 : Int32) (H : Heap) (locs : List Loc) (ls : Array Slot), gw_ok z t0 3 → gw_Wx D cA hs z s u H locs → lv_has ls 2 [(0, .ref (hs t0)), (1, .int x1)] → rc_2 u t0 x1 = some r0 → gw_Gv p l e gr_Speeds_forget s m args below meth c D cA hs z r0 H locs ls 2 []) (u : gw_St) (t0 : Nat) (x1 : Int32) (o_t0 : gw_ok z t0 3) {H : Heap} {locs : List Loc} {ls : Array Slot} (hW : gw_Wx D cA hs z s u H locs) (hl : lv_has ls 2 [(0, .ref (hs t0)), (1, .int x1)]) (h : gf_Speeds_forget_S2 F z  rc_2 u t0 x1 = some r0) : gw_Gv p l e gr_Speeds_forget s m args below meth c D cA hs z r0 H locs ls 2 [] := by
  obtain ⟨hx, hb, hml, hown, hts, hK⟩ := id C
  unfold gf_Speeds_forget_S2 at h
  refine lv_iload_n hx hb gd_Speeds_forget_2 rfl (lv_at hl 1 rfl) ?_
  refine lv_bipush (v := 60) hx hb gd_Speeds_forget_3 (by decide) ?_
  refine lv_icmp_ge (tgt := 21) hx hb gd_Speeds_forget_5 (by decide) (fun c1 => ?_) (fun c1 => ?_)
  · have h := gf_t c1 h
    obtain rfl := Option.some.inj h
    exact gw_vret C hW hr hk gd_Speeds_forget_21
  · have h := gf_f c1 h
    refine lv_aload_n hx hb gd_Speeds_forget_8 rfl (lv_at hl 0 rfl) ?_
    obtain ⟨q2, e3, h⟩ := gf_nn_ok h
    refine gw_getr (k := 0) (ty := 12) (ref := R_Speeds) C hW o_t0 (by decide) rfl gi_Speeds rfl (by decide) rfl rfl gk_127 gd_Speeds_forget_9 e3 ?_
    have o_q2 := hW.ref (d := 12) o_t0 e3 rfl
    refine lv_iload_n hx hb gd_Speeds_forget_12 rfl (lv_at hl 1 rfl) ?_
    refine lv_iconst (v := 0) hx hb gd_Speeds_forget_13 (by decide) ?_
    obtain ⟨g4, h⟩ := gf_if_ok h
    refine gw_zast C hW o_q2 g4 gd_Speeds_forget_14 (fun u5 H locs e6 hW => ?_)
    have h := gf_nm_ok e6 h
    obtain ⟨a7, e8⟩ : ∃ y : Int32, y = x1 + 1 := ⟨_, rfl⟩
    have h := gf_nm_ok e8 h
    refine lv_iinc (v := a7) (lv' := [(1, .int a7), (0, .ref (hs t0))]) hx hb gd_Speeds_forget_15 hl (k := 1) rfl (by rw [e8]; rfl) (by decide) rfl (fun ls hl => ?_)
    refine lv_goto (tgt := 2) hx hb gd_Speeds_forget_18 (by decide) ?_
    exact k_2 u5 t0 a7 _ _ _ o_t0 hW (lv_sub hl [1, 0] rfl) h
set_option maxHeartbeats 4000000 in
set_option maxRecDepth 20000 in
theorem gx_Speeds_forget_L2 {p : Program} {l : Launch} {e : Env} {s : State} {m : MethodId} {args : Array Value} {below : List Frame} {meth : Method} {c : Code} {D : va_G} {cA : Nat → ClassId} {hs : Nat → Nat} {z : gw_Sh} (F : Nat) {r0 : gw_St} (C : gw_Cx p s m args c gb_Speeds_forget 2 R_Speeds D cA) (hr : meth.sig.returnType = none) (hk : meth.locks = false) : ∀ (n : Nat), ∀ (u : gw_St) (t0 : Nat) (x1 : Int32) (H : Heap) (locs : List Loc) (ls : Array Slot), gw_ok z t0 3 → gw_Wx D cA hs z s u H locs → lv_has ls 2 [(0, .ref (hs t0)), (1, .int x1)] → gf_Speeds_forget_L2 F z  n u t0 x1 = some r0 → gw_Gv p l e gr_Speeds_forget s m args below meth c D cA hs z r0 H locs ls 2 [] := by
  intro n
  induction n with
  | zero =>
    intro u t0 x1 H locs ls o_t0 hW hl h
    cases h
  | succ n ih =>
    intro u t0 x1 H locs ls o_t0 hW hl h
    exact gx_Speeds_forget_S2 F C hr hk  ih u t0 x1 o_t0 hW hl h

set_option maxHeartbeats 4000000 in
set_option maxRecDepth 20000 in
theorem gx_Speeds_forget_b0 {p : Program} {l : Launch} {e : Env} {s : State} {m : MethodId} {args : Array Value} {below : List Frame} {meth : Method} {c : Code} {D : va_G} {cA : Nat → ClassId} {hs : Nat → Nat} {z : gw_Sh} (F : Nat) {r0 : gw_St} (C : gw_Cx p s m args c gb_Speeds_forget 2 R_Speeds D cA) (hr : meth.sig.returnType = none) (hk : meth.locks = false) (u : gw_St) (t0 : Nat) (o_t0 : gw_ok z t0 3) {H : Heap} {locs : List Loc} {ls : Array Slot} (hW : gw_Wx D cA hs z s u H locs) (hl : lv_has ls 2 [(0, .ref (hs t0))]) (h : gf_Speeds_forget_b0 F z   u t0 = some r0) : gw_Gv p l e gr_Speeds_forget s m args below meth c D cA hs z r0 H locs ls 0 [] := by
  obtain ⟨hx, hb, hml, hown, hts, hK⟩ := id C
  unfold gf_Speeds_forget_b0 at h
  refine lv_iconst (v := 0) hx hb gd_Speeds_forget_0 (by decide) ?_
  refine lv_istore_n (lv' := [(1, .int 0), (0, .ref (hs t0))]) hx hb gd_Speeds_forget_1 rfl hl (by decide) rfl (fun ls hl => ?_)
  exact gx_Speeds_forget_L2 F C hr hk  F u t0 0 _ _ _ o_t0 hW (lv_sub hl [1, 0] rfl) h

set_option maxRecDepth 20000 in
theorem gc_Speeds_forget (l : Launch) {D : va_G} {cA : Nat → ClassId} {hs : Nat → Nat} {z : gw_Sh} (F : Nat) {u : gw_St} {r0 : gw_St} {t0 : Nat} (o_t0 : gw_ok z t0 3) (h : gf_Speeds_forget F z u t0 = some r0) (sz : Nat) : gw_Mv l gy_Speeds_forget gb_Speeds_forget 2 none gr_Speeds_forget [.ref (hs t0)] D cA hs z u sz r0 := by
  refine gw_enter (by decide) (Nat.le_of_ble_eq_true rfl) ?_
  intro p e s m below meth c ls hsz C hW hr hk _ hl
  subst hsz
  exact gx_Speeds_forget_b0 F C hr hk u t0 o_t0 hW (lv_sub hl [0] rfl) h
-- GearDesk$Speeds.howMany()I
def gy_Speeds_howMany : MethodName := ⟨R_Speeds, "howMany", "()I"⟩
abbrev gb_Speeds_howMany : ByteArray := prog_6_method_3_code
theorem gk_130 : Cond.code gy_Speeds_howMany gb_Speeds_howMany 3 (some .int) ∈ gt_T := gt_m2 (List.mem_of_getElem? (i := 146) rfl) rfl
def gr_Speeds_howMany : Room := gw_rm 1 64
theorem gm_Speeds_howMany : gw_Mth gy_Speeds_howMany gb_Speeds_howMany 3 (some .int) 0 := ⟨gk_130, gk_128, ⟨by decide +kernel, by decide +kernel⟩, by decide +kernel⟩
theorem gd_Speeds_howMany_0 : decode gb_Speeds_howMany 0 = .ok (.iconst 0, 1) := by decide +kernel
theorem gd_Speeds_howMany_1 : decode gb_Speeds_howMany 1 = .ok (.istore_n 1, 1) := by decide +kernel
theorem gd_Speeds_howMany_2 : decode gb_Speeds_howMany 2 = .ok (.iconst 0, 1) := by decide +kernel
theorem gd_Speeds_howMany_3 : decode gb_Speeds_howMany 3 = .ok (.istore_n 2, 1) := by decide +kernel
theorem gd_Speeds_howMany_4 : decode gb_Speeds_howMany 4 = .ok (.iload_n 2, 1) := by decide +kernel
theorem gd_Speeds_howMany_5 : decode gb_Speeds_howMany 5 = .ok (.bipush 60, 2) := by decide +kernel
theorem gd_Speeds_howMany_7 : decode gb_Speeds_howMany 7 = .ok (.if_icmp .ge 21, 3) := by decide +kernel
theorem gd_Speeds_howMany_10 : decode gb_Speeds_howMany 10 = .ok (.aload_n 0, 1) := by decide +kernel
theorem gd_Speeds_howMany_11 : decode gb_Speeds_howMany 11 = .ok (.getfield 9, 3) := by decide +kernel
theorem gd_Speeds_howMany_14 : decode gb_Speeds_howMany 14 = .ok (.iload_n 2, 1) := by decide +kernel
theorem gd_Speeds_howMany_15 : decode gb_Speeds_howMany 15 = .ok (.baload, 1) := by decide +kernel
theorem gd_Speeds_howMany_16 : decode gb_Speeds_howMany 16 = .ok (.ifCond .eq 6, 3) := by decide +kernel
theorem gd_Speeds_howMany_19 : decode gb_Speeds_howMany 19 = .ok (.iinc 1 1, 3) := by decide +kernel
theorem gd_Speeds_howMany_22 : decode gb_Speeds_howMany 22 = .ok (.iinc 2 1, 3) := by decide +kernel
theorem gd_Speeds_howMany_25 : decode gb_Speeds_howMany 25 = .ok (.goto (-21), 3) := by decide +kernel
theorem gd_Speeds_howMany_28 : decode gb_Speeds_howMany 28 = .ok (.iload_n 1, 1) := by decide +kernel
theorem gd_Speeds_howMany_29 : decode gb_Speeds_howMany 29 = .ok (.ireturn, 1) := by decide +kernel
def gf_Speeds_howMany_b22 (F : Nat) (z : gw_Sh) (rc_4 : gw_St → Nat → Int32 → Int32 → Option (Int32 × gw_St)) (u : gw_St) (t0 : Nat) (x1 : Int32) (x2 : Int32) : Option (Int32 × gw_St) :=
  gf_nm (x2 + 1) fun a1 => rc_4 u t0 x1 a1
def gf_Speeds_howMany_S4 (F : Nat) (z : gw_Sh)  (rc_4 : gw_St → Nat → Int32 → Int32 → Option (Int32 × gw_St)) (u : gw_St) (t0 : Nat) (x1 : Int32) (x2 : Int32) : Option (Int32 × gw_St) :=
  if (60 : Int32) ≤ x2 then (some (x1, u)) else (gf_nn (u.2.2 t0 0) fun q4 => if (x2 < 0 ∨ z.2.2 q4 ≤ (x2).toNatClampNeg) then none else if (u.1 q4 (x2).toNatClampNeg) = 0 then (gf_Speeds_howMany_b22 F z rc_4 u t0 x1 x2) else (gf_nm (x1 + 1) fun a8 => gf_Speeds_howMany_b22 F z rc_4 u t0 a8 x2))
def gf_Speeds_howMany_L4 (F : Nat) (z : gw_Sh)  : Nat → gw_St → Nat → Int32 → Int32 → Option (Int32 × gw_St)
  | 0 => fun _ _ _ _ => none
  | n + 1 => fun u t0 x1 x2 => gf_Speeds_howMany_S4 F z  (gf_Speeds_howMany_L4 F z  n) u t0 x1 x2
def gf_Speeds_howMany_b0 (F : Nat) (z : gw_Sh)  (u : gw_St) (t0 : Nat) : Option (Int32 × gw_St) :=
  gf_Speeds_howMany_L4 F z  F u t0 0 0
def gf_Speeds_howMany (F : Nat) (z : gw_Sh) (u : gw_St) (t0 : Nat) : Option (Int32 × gw_St) := gf_Speeds_howMany_b0 F z  u t0
set_option maxHeartbeats 4000000 in
set_option maxRecDepth 20000 in
theorem gx_Speeds_howMany_b22 {p : Program} {l : Launch} {e : Env} {s : State} {m : MethodId} {args : Array Value} {below : List Frame} {meth : Method} {c : Code} {D : va_G} {cA : Nat → ClassId} {hs : Nat → Nat} {z : gw_Sh} (F : Nat) {r0 : (Int32 × gw_St)} (C : gw_Cx p s m args c gb_Speeds_howMany 3 R_Speeds D cA) (hr : meth.sig.returnType = (some .int)) (hk : meth.locks = false) {rc_4 : gw_St → Nat → Int32 → Int32 → Option (Int32 × gw_St)} (k_4 : ∀ (u : gw_St) (t0 : Nat) (x1 : Int32) (x2 : Int32) (H : Heap) (locs : List Loc) (ls : Array Slot), gw_ok z t0 3 → gw_Wx D cA hs z s u H locs → lv_has ls 3 [(0, .ref (hs t0)), (1, .int x1), (2, .int x2)] → rc_4 u t0 x1 x2 = some r0 → gw_Gi p l e gr_Speeds_howMany s m args below meth c D cA hs z r0 H locs ls 4 []) (u : gw_St) (t0 : Nat) (x1 : Int32) (x2 : Int32) (o_t0 : gw_ok z t0 3) {H : Heap} {locs : List Loc} {ls : Array Slot} (hW : gw_Wx D cA hs z s u H locs) (hl : lv_has ls 3 [(0, .ref (hs t0)), (1, .int x1), (2, .int x2)]) (h : gf_Speeds_howMany_b22 F z rc_4  u t0 x1 x2 = some r0) : gw_Gi p l e gr_Speeds_howMany s m args below meth c D cA hs z r0 H locs ls 22 [] := by
  obtain ⟨hx, hb, hml, hown, hts, hK⟩ := id C
  unfold gf_Speeds_howMany_b22 at h
  obtain ⟨a1, e2⟩ : ∃ y : Int32, y = x2 + 1 := ⟨_, rfl⟩
  have h := gf_nm_ok e2 h
  refine lv_iinc (v := a1) (lv' := [(2, .int a1), (0, .ref (hs t0)), (1, .int x1)]) hx hb gd_Speeds_howMany_22 hl (k := 2) rfl (by rw [e2]; rfl) (by decide) rfl (fun ls hl => ?_)
  refine lv_goto (tgt := 4) hx hb gd_Speeds_howMany_25 (by decide) ?_
  exact k_4 u t0 x1 a1 _ _ _ o_t0 hW (lv_sub hl [1, 2, 0] rfl) h

set_option maxHeartbeats 4000000 in
set_option maxRecDepth 20000 in
theorem gx_Speeds_howMany_S4 {p : Program} {l : Launch} {e : Env} {s : State} {m : MethodId} {args : Array Value} {below : List Frame} {meth : Method} {c : Code} {D : va_G} {cA : Nat → ClassId} {hs : Nat → Nat} {z : gw_Sh} (F : Nat) {r0 : (Int32 × gw_St)} (C : gw_Cx p s m args c gb_Speeds_howMany 3 R_Speeds D cA) (hr : meth.sig.returnType = (some .int)) (hk : meth.locks = false) {rc_4 : gw_St → Nat → Int32 → Int32 → Option (Int32 × gw_St)} (k_4 : ∀ (u : gw_St) (t0 : Nat) (x1 : Int32) (x2 : Int32) (H : Heap) (locs : List Loc) (ls : Array Slot), gw_ok z t0 3 → gw_Wx D cA hs z s u H locs → lv_has ls 3 [(0, .ref (hs t0)), (1, .int x1), (2, .int x2)] → rc_4 u t0 x1 x2 = some r0 → gw_Gi p l e gr_Speeds_howMany s m args below meth c D cA hs z r0 H locs ls 4 []) (u : gw_St) (t0 : Nat) (x1 : Int32) (x2 : Int32) (o_t0 : gw_ok z t0 3) {H : Heap} {locs : List Loc} {ls : Array Slot} (hW : gw_Wx D cA hs z s u H locs) (hl : lv_has ls 3 [(0, .ref (hs t0)), (1, .int x1), (2, .int x2)]) (h : gf_Speeds_howMany_S4 F z  rc_4 u t0 x1 x2 = some r0) : gw_Gi p l e gr_Speeds_howMany s m args below meth c D cA hs z r0 H locs ls 4 [] := by
  obtain ⟨hx, hb, hml, hown, hts, hK⟩ := id C
  unfold gf_Speeds_howMany_S4 at h
  refine lv_iload_n hx hb gd_Speeds_howMany_4 rfl (lv_at hl 2 rfl) ?_
  refine lv_bipush (v := 60) hx hb gd_Speeds_howMany_5 (by decide) ?_
  refine lv_icmp_ge (tgt := 28) hx hb gd_Speeds_howMany_7 (by decide) (fun c3 => ?_) (fun c3 => ?_)
  · have h := gf_t c3 h
    refine lv_iload_n hx hb gd_Speeds_howMany_28 rfl (lv_at hl 1 rfl) ?_
    obtain rfl := Option.some.inj h
    exact gw_iret C hW hr hk gd_Speeds_howMany_29
  · have h := gf_f c3 h
    refine lv_aload_n hx hb gd_Speeds_howMany_10 rfl (lv_at hl 0 rfl) ?_
    obtain ⟨q4, e5, h⟩ := gf_nn_ok h
    refine gw_getr (k := 0) (ty := 12) (ref := R_Speeds) C hW o_t0 (by decide) rfl gi_Speeds rfl (by decide) rfl rfl gk_127 gd_Speeds_howMany_11 e5 ?_
    have o_q4 := hW.ref (d := 12) o_t0 e5 rfl
    refine lv_iload_n hx hb gd_Speeds_howMany_14 rfl (lv_at hl 2 rfl) ?_
    obtain ⟨g6, h⟩ := gf_if_ok h
    refine gw_zald C hW o_q4 g6 gd_Speeds_howMany_15 ?_
    refine lv_if_eq (tgt := 22) hx hb gd_Speeds_howMany_16 (by decide) (fun c7 => ?_) (fun c7 => ?_)
    · have h := gf_t c7 h
      exact gx_Speeds_howMany_b22 F C hr hk k_4 u t0 x1 x2 o_t0 hW (lv_sub hl [0, 1, 2] rfl) h
    · have h := gf_f c7 h
      obtain ⟨a8, e9⟩ : ∃ y : Int32, y = x1 + 1 := ⟨_, rfl⟩
      have h := gf_nm_ok e9 h
      refine lv_iinc (v := a8) (lv' := [(1, .int a8), (0, .ref (hs t0)), (2, .int x2)]) hx hb gd_Speeds_howMany_19 hl (k := 1) rfl (by rw [e9]; rfl) (by decide) rfl (fun ls hl => ?_)
      exact gx_Speeds_howMany_b22 F C hr hk k_4 u t0 a8 x2 o_t0 hW (lv_sub hl [1, 0, 2] rfl) h
set_option maxHeartbeats 4000000 in
set_option maxRecDepth 20000 in
theorem gx_Speeds_howMany_L4 {p : Program} {l : Launch} {e : Env} {s : State} {m : MethodId} {args : Array Value} {below : List Frame} {meth : Method} {c : Code} {D : va_G} {cA : Nat → ClassId} {hs : Nat → Nat} {z : gw_Sh} (F : Nat) {r0 : (Int32 × gw_St)} (C : gw_Cx p s m args c gb_Speeds_howMany 3 R_Speeds D cA) (hr : meth.sig.returnType = (some .int)) (hk : meth.locks = false) : ∀ (n : Nat), ∀ (u : gw_St) (t0 : Nat) (x1 : Int32) (x2 : Int32) (H : Heap) (locs : List Loc) (ls : Array Slot), gw_ok z t0 3 → gw_Wx D cA hs z s u H locs → lv_has ls 3 [(0, .ref (hs t0)), (1, .int x1), (2, .int x2)] → gf_Speeds_howMany_L4 F z  n u t0 x1 x2 = some r0 → gw_Gi p l e gr_Speeds_howMany s m args below meth c D cA hs z r0 H locs ls 4 [] := by
  intro n
  induction n with
  | zero =>
    intro u t0 x1 x2 H locs ls o_t0 hW hl h
    cases h
  | succ n ih =>
    intro u t0 x1 x2 H locs ls o_t0 hW hl h
    exact gx_Speeds_howMany_S4 F C hr hk  ih u t0 x1 x2 o_t0 hW hl h

set_option maxHeartbeats 4000000 in
set_option maxRecDepth 20000 in
theorem gx_Speeds_howMany_b0 {p : Program} {l : Launch} {e : Env} {s : State} {m : MethodId} {args : Array Value} {below : List Frame} {meth : Method} {c : Code} {D : va_G} {cA : Nat → ClassId} {hs : Nat → Nat} {z : gw_Sh} (F : Nat) {r0 : (Int32 × gw_St)} (C : gw_Cx p s m args c gb_Speeds_howMany 3 R_Speeds D cA) (hr : meth.sig.returnType = (some .int)) (hk : meth.locks = false) (u : gw_St) (t0 : Nat) (o_t0 : gw_ok z t0 3) {H : Heap} {locs : List Loc} {ls : Array Slot} (hW : gw_Wx D cA hs z s u H locs) (hl : lv_has ls 3 [(0, .ref (hs t0))]) (h : gf_Speeds_howMany_b0 F z   u t0 = some r0) : gw_Gi p l e gr_Speeds_howMany s m args below meth c D cA hs z r0 H locs ls 0 [] := by
  obtain ⟨hx, hb, hml, hown, hts, hK⟩ := id C
  unfold gf_Speeds_howMany_b0 at h
  refine lv_iconst (v := 0) hx hb gd_Speeds_howMany_0 (by decide) ?_
  refine lv_istore_n (lv' := [(1, .int 0), (0, .ref (hs t0))]) hx hb gd_Speeds_howMany_1 rfl hl (by decide) rfl (fun ls hl => ?_)
  refine lv_iconst (v := 0) hx hb gd_Speeds_howMany_2 (by decide) ?_
  refine lv_istore_n (lv' := [(2, .int 0), (1, .int 0), (0, .ref (hs t0))]) hx hb gd_Speeds_howMany_3 rfl hl (by decide) rfl (fun ls hl => ?_)
  exact gx_Speeds_howMany_L4 F C hr hk  F u t0 0 0 _ _ _ o_t0 hW (lv_sub hl [2, 1, 0] rfl) h

set_option maxRecDepth 20000 in
theorem gc_Speeds_howMany (l : Launch) {D : va_G} {cA : Nat → ClassId} {hs : Nat → Nat} {z : gw_Sh} (F : Nat) {u : gw_St} {r0 : (Int32 × gw_St)} {t0 : Nat} (o_t0 : gw_ok z t0 3) (h : gf_Speeds_howMany F z u t0 = some r0) (sz : Nat) : gw_Mi l gy_Speeds_howMany gb_Speeds_howMany 3 (some .int) gr_Speeds_howMany [.ref (hs t0)] D cA hs z u sz r0 := by
  refine gw_enter (by decide) (Nat.le_of_ble_eq_true rfl) ?_
  intro p e s m below meth c ls hsz C hW hr hk _ hl
  subst hsz
  exact gx_Speeds_howMany_b0 F C hr hk u t0 o_t0 hW (lv_sub hl [0] rfl) h
