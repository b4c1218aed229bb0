-- java/util/Arrays.rangeCheck(III)V
theorem gk_0 : Cond.initialized "java/util/Arrays" ∈ gt_T := gt_m1 (List.mem_of_getElem? (i := 12) rfl) rfl
def gy_Arrays_rangeCheck : MethodName := ⟨"java/util/Arrays", "rangeCheck", "(III)V"⟩
abbrev gb_Arrays_rangeCheck : ByteArray := prog_30_method_30_code
theorem gk_1 : Cond.code gy_Arrays_rangeCheck gb_Arrays_rangeCheck 3 none ∈ gt_T := gt_m3 (List.mem_of_getElem? (i := 42) rfl) rfl
def gr_Arrays_rangeCheck : Room := gw_rm 1 64
theorem gm_Arrays_rangeCheck : gw_Mth gy_Arrays_rangeCheck gb_Arrays_rangeCheck 3 none 3 := ⟨gk_1, gk_0, ⟨by decide +kernel, by decide +kernel⟩, by decide +kernel⟩
theorem gd_Arrays_rangeCheck_0 : decode gb_Arrays_rangeCheck 0 = .ok (.iload_n 1, 1) := by decide +kernel
theorem gd_Arrays_rangeCheck_1 : decode gb_Arrays_rangeCheck 1 = .ok (.iload_n 2, 1) := by decide +kernel
theorem gd_Arrays_rangeCheck_2 : decode gb_Arrays_rangeCheck 2 = .ok (.if_icmp .le 44, 3) := by decide +kernel
theorem gd_Arrays_rangeCheck_46 : decode gb_Arrays_rangeCheck 46 = .ok (.iload_n 1, 1) := by decide +kernel
theorem gd_Arrays_rangeCheck_47 : decode gb_Arrays_rangeCheck 47 = .ok (.ifCond .ge 12, 3) := by decide +kernel
theorem gd_Arrays_rangeCheck_59 : decode gb_Arrays_rangeCheck 59 = .ok (.iload_n 2, 1) := by decide +kernel
theorem gd_Arrays_rangeCheck_60 : decode gb_Arrays_rangeCheck 60 = .ok (.iload_n 0, 1) := by decide +kernel
theorem gd_Arrays_rangeCheck_61 : decode gb_Arrays_rangeCheck 61 = .ok (.if_icmp .le 12, 3) := by decide +kernel
theorem gd_Arrays_rangeCheck_73 : decode gb_Arrays_rangeCheck 73 = .ok (.return_, 1) := by decide +kernel
def gf_Arrays_rangeCheck_b0 (F : Nat) (z : gw_Sh)  (u : gw_St) (x0 : Int32) (x1 : Int32) (x2 : Int32) : Option gw_St :=
  if x1 ≤ x2 then (if 0 ≤ x1 then (if x2 ≤ x0 then (some u) else (none)) else (none)) else (none)
def gf_Arrays_rangeCheck (F : Nat) (z : gw_Sh) (u : gw_St) (x0 : Int32) (x1 : Int32) (x2 : Int32) : Option gw_St := gf_Arrays_rangeCheck_b0 F z  u x0 x1 x2
set_option maxHeartbeats 4000000 in
set_option maxRecDepth 20000 in
theorem gx_Arrays_rangeCheck_b0 {p : Program} {l : Launch} {e : Env} {s : State} {m : MethodId} {args : Array Value} {below : List Frame} {meth : Method} {c : Code} {D : va_G} {cA : Nat → ClassId} {hs : Nat → Nat} {z : gw_Sh} (F : Nat) {r0 : gw_St} (C : gw_Cx p s m args c gb_Arrays_rangeCheck 3 "java/util/Arrays" D cA) (hr : meth.sig.returnType = none) (hk : meth.locks = false) (u : gw_St) (x0 : Int32) (x1 : Int32) (x2 : Int32)  {H : Heap} {locs : List Loc} {ls : Array Slot} (hW : gw_Wx D cA hs z s u H locs) (hl : lv_has ls 3 [(0, .int x0), (1, .int x1), (2, .int x2)]) (h : gf_Arrays_rangeCheck_b0 F z   u x0 x1 x2 = some r0) : gw_Gv p l e gr_Arrays_rangeCheck s m args below meth c D cA hs z r0 H locs ls 0 [] := by
  obtain ⟨hx, hb, hml, hown, hts, hK⟩ := id C
  unfold gf_Arrays_rangeCheck_b0 at h
  refine lv_iload_n hx hb gd_Arrays_rangeCheck_0 rfl (lv_at hl 1 rfl) ?_
  refine lv_iload_n hx hb gd_Arrays_rangeCheck_1 rfl (lv_at hl 2 rfl) ?_
  refine lv_icmp_le (tgt := 46) hx hb gd_Arrays_rangeCheck_2 (by decide) (fun c1 => ?_) (fun c1 => ?_)
  · have h := gf_t c1 h
    refine lv_iload_n hx hb gd_Arrays_rangeCheck_46 rfl (lv_at hl 1 rfl) ?_
    refine lv_if_ge (tgt := 59) hx hb gd_Arrays_rangeCheck_47 (by decide) (fun c2 => ?_) (fun c2 => ?_)
    · have h := gf_t c2 h
      refine lv_iload_n hx hb gd_Arrays_rangeCheck_59 rfl (lv_at hl 2 rfl) ?_
      refine lv_iload_n hx hb gd_Arrays_rangeCheck_60 rfl (lv_at hl 0 rfl) ?_
      refine lv_icmp_le (tgt := 73) hx hb gd_Arrays_rangeCheck_61 (by decide) (fun c3 => ?_) (fun c3 => ?_)
      · have h := gf_t c3 h
        obtain rfl := Option.some.inj h
        exact gw_vret C hW hr hk gd_Arrays_rangeCheck_73
      · have h := gf_f c3 h
        cases h
    · have h := gf_f c2 h
      cases h
  · have h := gf_f c1 h
    cases h

set_option maxRecDepth 20000 in
theorem gc_Arrays_rangeCheck (l : Launch) {D : va_G} {cA : Nat → ClassId} {hs : Nat → Nat} {z : gw_Sh} (F : Nat) {u : gw_St} {r0 : gw_St} {x0 : Int32} {x1 : Int32} {x2 : Int32}  (h : gf_Arrays_rangeCheck F z u x0 x1 x2 = some r0) (sz : Nat) : gw_Mv l gy_Arrays_rangeCheck gb_Arrays_rangeCheck 3 none gr_Arrays_rangeCheck [.int x0, .int x1, .int x2] D cA hs z u sz r0 := by
  refine gw_enter (by decide) (Nat.le_of_ble_eq_true rfl) ?_
  intro p e s m below meth c ls hsz C hW hr hk _ hl
  subst hsz
  exact gx_Arrays_rangeCheck_b0 F C hr hk u x0 x1 x2  hW (lv_sub hl [0, 1, 2] rfl) h
-- java/util/Arrays.fill([II)V
def gy_Arrays_fill1 : MethodName := ⟨"java/util/Arrays", "fill", "([II)V"⟩
abbrev gb_Arrays_fill1 : ByteArray := prog_30_method_103_code
theorem gk_2 : Cond.code gy_Arrays_fill1 gb_Arrays_fill1 4 none ∈ gt_T := gt_m2 (List.mem_of_getElem? (i := 94) rfl) rfl
def gr_Arrays_fill1 : Room := gw_rm 1 64
theorem gm_Arrays_fill1 : gw_Mth gy_Arrays_fill1 gb_Arrays_fill1 4 none 2 := ⟨gk_2, gk_0, ⟨by decide +kernel, by decide +kernel⟩, by decide +kernel⟩
theorem gd_Arrays_fill1_0 : decode gb_Arrays_fill1 0 = .ok (.iconst 0, 1) := by decide +kernel
theorem gd_Arrays_fill1_1 : decode gb_Arrays_fill1 1 = .ok (.istore_n 2, 1) := by decide +kernel
theorem gd_Arrays_fill1_2 : decode gb_Arrays_fill1 2 = .ok (.aload_n 0, 1) := by decide +kernel
theorem gd_Arrays_fill1_3 : decode gb_Arrays_fill1 3 = .ok (.arraylength, 1) := by decide +kernel
theorem gd_Arrays_fill1_4 : decode gb_Arrays_fill1 4 = .ok (.istore_n 3, 1) := by decide +kernel
theorem gd_Arrays_fill1_5 : decode gb_Arrays_fill1 5 = .ok (.iload_n 2, 1) := by decide +kernel
theorem gd_Arrays_fill1_6 : decode gb_Arrays_fill1 6 = .ok (.iload_n 3, 1) := by decide +kernel
theorem gd_Arrays_fill1_7 : decode gb_Arrays_fill1 7 = .ok (.if_icmp .ge 13, 3) := by decide +kernel
theorem gd_Arrays_fill1_10 : decode gb_Arrays_fill1 10 = .ok (.aload_n 0, 1) := by decide +kernel
theorem gd_Arrays_fill1_11 : decode gb_Arrays_fill1 11 = .ok (.iload_n 2, 1) := by decide +kernel
theorem gd_Arrays_fill1_12 : decode gb_Arrays_fill1 12 = .ok (.iload_n 1, 1) := by decide +kernel
theorem gd_Arrays_fill1_13 : decode gb_Arrays_fill1 13 = .ok (.iastore, 1) := by decide +kernel
theorem gd_Arrays_fill1_14 : decode gb_Arrays_fill1 14 = .ok (.iinc 2 1, 3) := by decide +kernel
theorem gd_Arrays_fill1_17 : decode gb_Arrays_fill1 17 = .ok (.goto (-12), 3) := by decide +kernel
theorem gd_Arrays_fill1_20 : decode gb_Arrays_fill1 20 = .ok (.return_, 1) := by decide +kernel
def gf_Arrays_fill1_S5 (F : Nat) (z : gw_Sh)  (rc_5 : gw_St → Nat → Int32 → Int32 → Int32 → Option gw_St) (u : gw_St) (t0 : Nat) (x1 : Int32) (x2 : Int32) (x3 : Int32) : Option gw_St :=
  if x3 ≤ x2 then (some u) else (if (x2 < 0 ∨ z.2.2 t0 ≤ (x2).toNatClampNeg) then none else gf_nm (gw_wi u t0 (x2).toNatClampNeg x1) fun u3 => gf_nm (x2 + 1) fun a5 => rc_5 u3 t0 x1 a5 x3)
def gf_Arrays_fill1_L5 (F : Nat) (z : gw_Sh)  : Nat → gw_St → Nat → Int32 → Int32 → Int32 → Option gw_St
  | 0 => fun _ _ _ _ _ => none
  | n + 1 => fun u t0 x1 x2 x3 => gf_Arrays_fill1_S5 F z  (gf_Arrays_fill1_L5 F z  n) u t0 x1 x2 x3
def gf_Arrays_fill1_b0 (F : Nat) (z : gw_Sh)  (u : gw_St) (t0 : Nat) (x1 : Int32) : Option gw_St :=
  gf_nm (Int32.ofNat (z.2.2 t0)) fun a7 => gf_Arrays_fill1_L5 F z  F u t0 x1 0 a7
def gf_Arrays_fill1 (F : Nat) (z : gw_Sh) (u : gw_St) (t0 : Nat) (x1 : Int32) : Option gw_St := gf_Arrays_fill1_b0 F z  u t0 x1
set_option maxHeartbeats 4000000 in
set_option maxRecDepth 20000 in
theorem gx_Arrays_fill1_S5 {p : Program} {l : Launch} {e : Env} {s : State} {m : MethodId} {args : Array Value} {below : List Frame} {meth : Method} {c : Code} {D : va_G} {cA : Nat → ClassId} {hs : Nat → Nat} {z : gw_Sh} (F : Nat) {r0 : gw_St} (C : gw_Cx p s m args c gb_Arrays_fill1 4 "java/util/Arrays" D cA) (hr : meth.sig.returnType = none) (hk : meth.locks = false) {rc_5 : gw_St → Nat → Int32 → Int32 → Int32 → Option gw_St} (k_5 : ∀ (u : gw_St) (t0 : Nat) (x1 : Int32) (x2 : Int32) (x3 : Int32) (H : Heap) (locs : List Loc) (ls : Array Slot), gw_ok z t0 10 → gw_Wx D cA hs z s u H locs → lv_has ls 4 [(0, .ref (hs t0)), (1, .int x1), (2, .int x2), (3, .int x3)] → rc_5 u t0 x1 x2 x3 = some r0 → gw_Gv p l e gr_Arrays_fill1 s m args below meth c D cA hs z r0 H locs ls 5 []) (u : gw_St) (t0 : Nat) (x1 : Int32) (x2 : Int32) (x3 : Int32) (o_t0 : gw_ok z t0 10) {H : Heap} {locs : List Loc} {ls : Array Slot} (hW : gw_Wx D cA hs z s u H locs) (hl : lv_has ls 4 [(0, .ref (hs t0)), (1, .int x1), (2, .int x2), (3, .int x3)]) (h : gf_Arrays_fill1_S5 F z  rc_5 u t0 x1 x2 x3 = some r0) : gw_Gv p l e gr_Arrays_fill1 s m args below meth c D cA hs z r0 H locs ls 5 [] := by
  obtain ⟨hx, hb, hml, hown, hts, hK⟩ := id C
  unfold gf_Arrays_fill1_S5 at h
  refine lv_iload_n hx hb gd_Arrays_fill1_5 rfl (lv_at hl 2 rfl) ?_
  refine lv_iload_n hx hb gd_Arrays_fill1_6 rfl (lv_at hl 3 rfl) ?_
  refine lv_icmp_ge (tgt := 20) hx hb gd_Arrays_fill1_7 (by decide) (fun c1 => ?_) (fun c1 => ?_)
  · have h := gf_t c1 h
    obtain rfl := Option.some.inj h
    exact gw_vret C hW hr hk gd_Arrays_fill1_20
  · have h := gf_f c1 h
    refine lv_aload_n hx hb gd_Arrays_fill1_10 rfl (lv_at hl 0 rfl) ?_
    refine lv_iload_n hx hb gd_Arrays_fill1_11 rfl (lv_at hl 2 rfl) ?_
    refine lv_iload_n hx hb gd_Arrays_fill1_12 rfl (lv_at hl 1 rfl) ?_
    obtain ⟨g2, h⟩ := gf_if_ok h
    refine gw_iast C hW o_t0 g2 gd_Arrays_fill1_13 (fun u3 H locs e4 hW => ?_)
    have h := gf_nm_ok e4 h
    obtain ⟨a5, e6⟩ : ∃ y : Int32, y = x2 + 1 := ⟨_, rfl⟩
    have h := gf_nm_ok e6 h
    refine lv_iinc (v := a5) (lv' := [(2, .int a5), (0, .ref (hs t0)), (1, .int x1), (3, .int x3)]) hx hb gd_Arrays_fill1_14 hl (k := 2) rfl (by rw [e6]; rfl) (by decide) rfl (fun ls hl => ?_)
    refine lv_goto (tgt := 5) hx hb gd_Arrays_fill1_17 (by decide) ?_
    exact k_5 u3 t0 x1 a5 x3 _ _ _ o_t0 hW (lv_sub hl [1, 2, 0, 3] rfl) h
set_option maxHeartbeats 4000000 in
set_option maxRecDepth 20000 in
theorem gx_Arrays_fill1_L5 {p : Program} {l : Launch} {e : Env} {s : State} {m : MethodId} {args : Array Value} {below : List Frame} {meth : Method} {c : Code} {D : va_G} {cA : Nat → ClassId} {hs : Nat → Nat} {z : gw_Sh} (F : Nat) {r0 : gw_St} (C : gw_Cx p s m args c gb_Arrays_fill1 4 "java/util/Arrays" D cA) (hr : meth.sig.returnType = none) (hk : meth.locks = false) : ∀ (n : Nat), ∀ (u : gw_St) (t0 : Nat) (x1 : Int32) (x2 : Int32) (x3 : Int32) (H : Heap) (locs : List Loc) (ls : Array Slot), gw_ok z t0 10 → gw_Wx D cA hs z s u H locs → lv_has ls 4 [(0, .ref (hs t0)), (1, .int x1), (2, .int x2), (3, .int x3)] → gf_Arrays_fill1_L5 F z  n u t0 x1 x2 x3 = some r0 → gw_Gv p l e gr_Arrays_fill1 s m args below meth c D cA hs z r0 H locs ls 5 [] := by
  intro n
  induction n with
  | zero =>
    intro u t0 x1 x2 x3 H locs ls o_t0 hW hl h
    cases h
  | succ n ih =>
    intro u t0 x1 x2 x3 H locs ls o_t0 hW hl h
    exact gx_Arrays_fill1_S5 F C hr hk  ih u t0 x1 x2 x3 o_t0 hW hl h

set_option maxHeartbeats 4000000 in
set_option maxRecDepth 20000 in
theorem gx_Arrays_fill1_b0 {p : Program} {l : Launch} {e : Env} {s : State} {m : MethodId} {args : Array Value} {below : List Frame} {meth : Method} {c : Code} {D : va_G} {cA : Nat → ClassId} {hs : Nat → Nat} {z : gw_Sh} (F : Nat) {r0 : gw_St} (C : gw_Cx p s m args c gb_Arrays_fill1 4 "java/util/Arrays" D cA) (hr : meth.sig.returnType = none) (hk : meth.locks = false) (u : gw_St) (t0 : Nat) (x1 : Int32) (o_t0 : gw_ok z t0 10) {H : Heap} {locs : List Loc} {ls : Array Slot} (hW : gw_Wx D cA hs z s u H locs) (hl : lv_has ls 4 [(0, .ref (hs t0)), (1, .int x1)]) (h : gf_Arrays_fill1_b0 F z   u t0 x1 = some r0) : gw_Gv p l e gr_Arrays_fill1 s m args below meth c D cA hs z r0 H locs ls 0 [] := by
  obtain ⟨hx, hb, hml, hown, hts, hK⟩ := id C
  unfold gf_Arrays_fill1_b0 at h
  refine lv_iconst (v := 0) hx hb gd_Arrays_fill1_0 (by decide) ?_
  refine lv_istore_n (lv' := [(2, .int 0), (0, .ref (hs t0)), (1, .int x1)]) hx hb gd_Arrays_fill1_1 rfl hl (by decide) rfl (fun ls hl => ?_)
  refine lv_aload_n hx hb gd_Arrays_fill1_2 rfl (lv_at hl 1 rfl) ?_
  refine gw_leni C hW o_t0 gd_Arrays_fill1_3 ?_
  refine lv_topi (fun a7 e8 => ?_)
  have h := gf_nm_ok e8 h
  refine lv_istore_n (lv' := [(3, .int a7), (2, .int 0), (0, .ref (hs t0)), (1, .int x1)]) hx hb gd_Arrays_fill1_4 rfl hl (by decide) rfl (fun ls hl => ?_)
  exact gx_Arrays_fill1_L5 F C hr hk  F u t0 x1 0 a7 _ _ _ o_t0 hW (lv_sub hl [2, 3, 1, 0] rfl) h

set_option maxRecDepth 20000 in
theorem gc_Arrays_fill1 (l : Launch) {D : va_G} {cA : Nat → ClassId} {hs : Nat → Nat} {z : gw_Sh} (F : Nat) {u : gw_St} {r0 : gw_St} {t0 : Nat} {x1 : Int32} (o_t0 : gw_ok z t0 10) (h : gf_Arrays_fill1 F z u t0 x1 = some r0) (sz : Nat) : gw_Mv l gy_Arrays_fill1 gb_Arrays_fill1 4 none gr_Arrays_fill1 [.ref (hs t0), .int x1] D cA hs z u sz r0 := by
  refine gw_enter (by decide) (Nat.le_of_ble_eq_true rfl) ?_
  intro p e s m below meth c ls hsz C hW hr hk _ hl
  subst hsz
  exact gx_Arrays_fill1_b0 F C hr hk u t0 x1 o_t0 hW (lv_sub hl [0, 1] rfl) h
-- java/util/Arrays.fill([IIII)V
theorem gk_3 : Cond.methodLink "java/util/Arrays" 13 gy_Arrays_rangeCheck ∈ gt_T := gt_m3 (List.mem_of_getElem? (i := 40) rfl) rfl
theorem gk_4 : Cond.static gy_Arrays_rangeCheck ∈ gt_T := gt_m3 (List.mem_of_getElem? (i := 41) rfl) rfl
def gy_Arrays_fill2 : MethodName := ⟨"java/util/Arrays", "fill", "([IIII)V"⟩
abbrev gb_Arrays_fill2 : ByteArray := prog_30_method_104_code
theorem gk_5 : Cond.code gy_Arrays_fill2 gb_Arrays_fill2 5 none ∈ gt_T := gt_m3 (List.mem_of_getElem? (i := 39) rfl) rfl
def gr_Arrays_fill2 : Room := gw_rm 2 86
theorem gm_Arrays_fill2 : gw_Mth gy_Arrays_fill2 gb_Arrays_fill2 5 none 4 := ⟨gk_5, gk_0, ⟨by decide +kernel, by decide +kernel⟩, by decide +kernel⟩
theorem gd_Arrays_fill2_0 : decode gb_Arrays_fill2 0 = .ok (.aload_n 0, 1) := by decide +kernel
theorem gd_Arrays_fill2_1 : decode gb_Arrays_fill2 1 = .ok (.arraylength, 1) := by decide +kernel
theorem gd_Arrays_fill2_2 : decode gb_Arrays_fill2 2 = .ok (.iload_n 1, 1) := by decide +kernel
theorem gd_Arrays_fill2_3 : decode gb_Arrays_fill2 3 = .ok (.iload_n 2, 1) := by decide +kernel
theorem gd_Arrays_fill2_4 : decode gb_Arrays_fill2 4 = .ok (.invokestatic 13, 3) := by decide +kernel
theorem gd_Arrays_fill2_7 : decode gb_Arrays_fill2 7 = .ok (.iload_n 1, 1) := by decide +kernel
theorem gd_Arrays_fill2_8 : decode gb_Arrays_fill2 8 = .ok (.istore 4, 2) := by decide +kernel
theorem gd_Arrays_fill2_10 : decode gb_Arrays_fill2 10 = .ok (.iload 4, 2) := by decide +kernel
theorem gd_Arrays_fill2_12 : decode gb_Arrays_fill2 12 = .ok (.iload_n 2, 1) := by decide +kernel
theorem gd_Arrays_fill2_13 : decode gb_Arrays_fill2 13 = .ok (.if_icmp .ge 14, 3) := by decide +kernel
theorem gd_Arrays_fill2_16 : decode gb_Arrays_fill2 16 = .ok (.aload_n 0, 1) := by decide +kernel
theorem gd_Arrays_fill2_17 : decode gb_Arrays_fill2 17 = .ok (.iload 4, 2) := by decide +kernel
theorem gd_Arrays_fill2_19 : decode gb_Arrays_fill2 19 = .ok (.iload_n 3, 1) := by decide +kernel
theorem gd_Arrays_fill2_20 : decode gb_Arrays_fill2 20 = .ok (.iastore, 1) := by decide +kernel
theorem gd_Arrays_fill2_21 : decode gb_Arrays_fill2 21 = .ok (.iinc 4 1, 3) := by decide +kernel
theorem gd_Arrays_fill2_24 : decode gb_Arrays_fill2 24 = .ok (.goto (-14), 3) := by decide +kernel
theorem gd_Arrays_fill2_27 : decode gb_Arrays_fill2 27 = .ok (.return_, 1) := by decide +kernel
def gf_Arrays_fill2_S10 (F : Nat) (z : gw_Sh)  (rc_10 : gw_St → Nat → Int32 → Int32 → Int32 → Option gw_St) (u : gw_St) (t0 : Nat) (x2 : Int32) (x3 : Int32) (x4 : Int32) : Option gw_St :=
  if x2 ≤ x4 then (some u) else (if (x4 < 0 ∨ z.2.2 t0 ≤ (x4).toNatClampNeg) then none else gf_nm (gw_wi u t0 (x4).toNatClampNeg x3) fun u3 => gf_nm (x4 + 1) fun a5 => rc_10 u3 t0 x2 x3 a5)
def gf_Arrays_fill2_L10 (F : Nat) (z : gw_Sh)  : Nat → gw_St → Nat → Int32 → Int32 → Int32 → Option gw_St
  | 0 => fun _ _ _ _ _ => none
  | n + 1 => fun u t0 x2 x3 x4 => gf_Arrays_fill2_S10 F z  (gf_Arrays_fill2_L10 F z  n) u t0 x2 x3 x4
def gf_Arrays_fill2_b0 (F : Nat) (z : gw_Sh)  (u : gw_St) (t0 : Nat) (x1 : Int32) (x2 : Int32) (x3 : Int32) : Option gw_St :=
  (gf_Arrays_rangeCheck F z u (Int32.ofNat (z.2.2 t0)) x1 x2).bind fun u7 => gf_Arrays_fill2_L10 F z  F u7 t0 x2 x3 x1
def gf_Arrays_fill2 (F : Nat) (z : gw_Sh) (u : gw_St) (t0 : Nat) (x1 : Int32) (x2 : Int32) (x3 : Int32) : Option gw_St := gf_Arrays_fill2_b0 F z  u t0 x1 x2 x3
set_option maxHeartbeats 4000000 in
set_option maxRecDepth 20000 in
theorem gx_Arrays_fill2_S10 {p : Program} {l : Launch} {e : Env} {s : State} {m : MethodId} {args : Array Value} {below : List Frame} {meth : Method} {c : Code} {D : va_G} {cA : Nat → ClassId} {hs : Nat → Nat} {z : gw_Sh} (F : Nat) {r0 : gw_St} (C : gw_Cx p s m args c gb_Arrays_fill2 5 "java/util/Arrays" D cA) (hr : meth.sig.returnType = none) (hk : meth.locks = false) {rc_10 : gw_St → Nat → Int32 → Int32 → Int32 → Option gw_St} (k_10 : ∀ (u : gw_St) (t0 : Nat) (x2 : Int32) (x3 : Int32) (x4 : Int32) (H : Heap) (locs : List Loc) (ls : Array Slot), gw_ok z t0 10 → gw_Wx D cA hs z s u H locs → lv_has ls 5 [(0, .ref (hs t0)), (2, .int x2), (3, .int x3), (4, .int x4)] → rc_10 u t0 x2 x3 x4 = some r0 → gw_Gv p l e gr_Arrays_fill2 s m args below meth c D cA hs z r0 H locs ls 10 []) (u : gw_St) (t0 : Nat) (x2 : Int32) (x3 : Int32) (x4 : Int32) (o_t0 : gw_ok z t0 10) {H : Heap} {locs : List Loc} {ls : Array Slot} (hW : gw_Wx D cA hs z s u H locs) (hl : lv_has ls 5 [(0, .ref (hs t0)), (2, .int x2), (3, .int x3), (4, .int x4)]) (h : gf_Arrays_fill2_S10 F z  rc_10 u t0 x2 x3 x4 = some r0) : gw_Gv p l e gr_Arrays_fill2 s m args below meth c D cA hs z r0 H locs ls 10 [] := by
  obtain ⟨hx, hb, hml, hown, hts, hK⟩ := id C
  unfold gf_Arrays_fill2_S10 at h
  refine lv_iload hx hb gd_Arrays_fill2_10 (lv_at hl 3 rfl) ?_
  refine lv_iload_n hx hb gd_Arrays_fill2_12 rfl (lv_at hl 1 rfl) ?_
  refine lv_icmp_ge (tgt := 27) hx hb gd_Arrays_fill2_13 (by decide) (fun c1 => ?_) (fun c1 => ?_)
  · have h := gf_t c1 h
    obtain rfl := Option.some.inj h
    exact gw_vret C hW hr hk gd_Arrays_fill2_27
  · have h := gf_f c1 h
    refine lv_aload_n hx hb gd_Arrays_fill2_16 rfl (lv_at hl 0 rfl) ?_
    refine lv_iload hx hb gd_Arrays_fill2_17 (lv_at hl 3 rfl) ?_
    refine lv_iload_n hx hb gd_Arrays_fill2_19 rfl (lv_at hl 2 rfl) ?_
    obtain ⟨g2, h⟩ := gf_if_ok h
    refine gw_iast C hW o_t0 g2 gd_Arrays_fill2_20 (fun u3 H locs e4 hW => ?_)
    have h := gf_nm_ok e4 h
    obtain ⟨a5, e6⟩ : ∃ y : Int32, y = x4 + 1 := ⟨_, rfl⟩
    have h := gf_nm_ok e6 h
    refine lv_iinc (v := a5) (lv' := [(4, .int a5), (0, .ref (hs t0)), (2, .int x2), (3, .int x3)]) hx hb gd_Arrays_fill2_21 hl (k := 3) rfl (by rw [e6]; rfl) (by decide) rfl (fun ls hl => ?_)
    refine lv_goto (tgt := 10) hx hb gd_Arrays_fill2_24 (by decide) ?_
    exact k_10 u3 t0 x2 x3 a5 _ _ _ o_t0 hW (lv_sub hl [1, 2, 3, 0] rfl) h
set_option maxHeartbeats 4000000 in
set_option maxRecDepth 20000 in
theorem gx_Arrays_fill2_L10 {p : Program} {l : Launch} {e : Env} {s : State} {m : MethodId} {args : Array Value} {below : List Frame} {meth : Method} {c : Code} {D : va_G} {cA : Nat → ClassId} {hs : Nat → Nat} {z : gw_Sh} (F : Nat) {r0 : gw_St} (C : gw_Cx p s m args c gb_Arrays_fill2 5 "java/util/Arrays" D cA) (hr : meth.sig.returnType = none) (hk : meth.locks = false) : ∀ (n : Nat), ∀ (u : gw_St) (t0 : Nat) (x2 : Int32) (x3 : Int32) (x4 : Int32) (H : Heap) (locs : List Loc) (ls : Array Slot), gw_ok z t0 10 → gw_Wx D cA hs z s u H locs → lv_has ls 5 [(0, .ref (hs t0)), (2, .int x2), (3, .int x3), (4, .int x4)] → gf_Arrays_fill2_L10 F z  n u t0 x2 x3 x4 = some r0 → gw_Gv p l e gr_Arrays_fill2 s m args below meth c D cA hs z r0 H locs ls 10 [] := by
  intro n
  induction n with
  | zero =>
    intro u t0 x2 x3 x4 H locs ls o_t0 hW hl h
    cases h
  | succ n ih =>
    intro u t0 x2 x3 x4 H locs ls o_t0 hW hl h
    exact gx_Arrays_fill2_S10 F C hr hk  ih u t0 x2 x3 x4 o_t0 hW hl h

set_option maxHeartbeats 4000000 in
set_option maxRecDepth 20000 in
theorem gx_Arrays_fill2_b0 {p : Program} {l : Launch} {e : Env} {s : State} {m : MethodId} {args : Array Value} {below : List Frame} {meth : Method} {c : Code} {D : va_G} {cA : Nat → ClassId} {hs : Nat → Nat} {z : gw_Sh} (F : Nat) {r0 : gw_St} (C : gw_Cx p s m args c gb_Arrays_fill2 5 "java/util/Arrays" D cA) (hr : meth.sig.returnType = none) (hk : meth.locks = false) (u : gw_St) (t0 : Nat) (x1 : Int32) (x2 : Int32) (x3 : Int32) (o_t0 : gw_ok z t0 10) {H : Heap} {locs : List Loc} {ls : Array Slot} (hW : gw_Wx D cA hs z s u H locs) (hl : lv_has ls 5 [(0, .ref (hs t0)), (1, .int x1), (2, .int x2), (3, .int x3)]) (h : gf_Arrays_fill2_b0 F z   u t0 x1 x2 x3 = some r0) : gw_Gv p l e gr_Arrays_fill2 s m args below meth c D cA hs z r0 H locs ls 0 [] := by
  obtain ⟨hx, hb, hml, hown, hts, hK⟩ := id C
  unfold gf_Arrays_fill2_b0 at h
  refine lv_aload_n hx hb gd_Arrays_fill2_0 rfl (lv_at hl 0 rfl) ?_
  refine gw_leni C hW o_t0 gd_Arrays_fill2_1 ?_
  refine lv_iload_n hx hb gd_Arrays_fill2_2 rfl (lv_at hl 1 rfl) ?_
  refine lv_iload_n hx hb gd_Arrays_fill2_3 rfl (lv_at hl 2 rfl) ?_
  obtain ⟨u7, d8, h⟩ := gf_bd_ok h
  refine gw_callSv (As := [.int (Int32.ofNat (z.2.2 t0)), .int x1, .int x2]) (rest := []) C hW (fun _ h => Or.inr h) hl.1 gm_Arrays_rangeCheck (gc_Arrays_rangeCheck l F  d8 _) gk_3 gk_4 rfl rfl ⟨Nat.le_of_ble_eq_true rfl, Nat.le_of_ble_eq_true rfl⟩ ⟨Nat.zero_le _, Nat.zero_le _⟩ rfl rfl (Nat.le_of_ble_eq_true rfl) gd_Arrays_fill2_4 (fun H locs hW => ?_)
  refine lv_iload_n hx hb gd_Arrays_fill2_7 rfl (lv_at hl 1 rfl) ?_
  refine lv_istore (lv' := [(4, .int x1), (0, .ref (hs t0)), (1, .int x1), (2, .int x2), (3, .int x3)]) hx hb gd_Arrays_fill2_8 hl (by decide) rfl (fun ls hl => ?_)
  exact gx_Arrays_fill2_L10 F C hr hk  F u7 t0 x2 x3 x1 _ _ _ o_t0 hW (lv_sub hl [1, 3, 4, 0] rfl) h

set_option maxRecDepth 20000 in
theorem gc_Arrays_fill2 (l : Launch) {D : va_G} {cA : Nat → ClassId} {hs : Nat → Nat} {z : gw_Sh} (F : Nat) {u : gw_St} {r0 : gw_St} {t0 : Nat} {x1 : Int32} {x2 : Int32} {x3 : Int32} (o_t0 : gw_ok z t0 10) (h : gf_Arrays_fill2 F z u t0 x1 x2 x3 = some r0) (sz : Nat) : gw_Mv l gy_Arrays_fill2 gb_Arrays_fill2 5 none gr_Arrays_fill2 [.ref (hs t0), .int x1, .int x2, .int x3] D cA hs z u sz r0 := by
  refine gw_enter (by decide) (Nat.le_of_ble_eq_true rfl) ?_
  intro p e s m below meth c ls hsz C hW hr hk _ hl
  subst hsz
  exact gx_Arrays_fill2_b0 F C hr hk u t0 x1 x2 x3 o_t0 hW (lv_sub hl [0, 1, 2, 3] rfl) h
-- java/lang/Integer.numberOfLeadingZeros(I)I
theorem gk_6 : Cond.constant "java/lang/Integer" 264 65536 ∈ gt_T := gt_m5 (List.mem_of_getElem? (i := 117) rfl) rfl
theorem gk_7 : Cond.initialized "java/lang/Integer" ∈ gt_T := gt_m1 (List.mem_of_getElem? (i := 27) rfl) rfl
def gy_Integer_numberOfLeadingZeros : MethodName := ⟨"java/lang/Integer", "numberOfLeadingZeros", "(I)I"⟩
abbrev gb_Integer_numberOfLeadingZeros : ByteArray := prog_19_method_47_code
theorem gk_8 : Cond.code gy_Integer_numberOfLeadingZeros gb_Integer_numberOfLeadingZeros 2 (some .int) ∈ gt_T := gt_m5 (List.mem_of_getElem? (i := 116) rfl) rfl
def gr_Integer_numberOfLeadingZeros : Room := gw_rm 1 64
theorem gm_Integer_numberOfLeadingZeros : gw_Mth gy_Integer_numberOfLeadingZeros gb_Integer_numberOfLeadingZeros 2 (some .int) 1 := ⟨gk_8, gk_7, ⟨by decide +kernel, by decide +kernel⟩, by decide +kernel⟩
theorem gd_Integer_numberOfLeadingZeros_0 : decode gb_Integer_numberOfLeadingZeros 0 = .ok (.iload_n 0, 1) := by decide +kernel
theorem gd_Integer_numberOfLeadingZeros_1 : decode gb_Integer_numberOfLeadingZeros 1 = .ok (.ifCond .gt 14, 3) := by decide +kernel
theorem gd_Integer_numberOfLeadingZeros_4 : decode gb_Integer_numberOfLeadingZeros 4 = .ok (.iload_n 0, 1) := by decide +kernel
theorem gd_Integer_numberOfLeadingZeros_5 : decode gb_Integer_numberOfLeadingZeros 5 = .ok (.ifCond .ne 8, 3) := by decide +kernel
theorem gd_Integer_numberOfLeadingZeros_8 : decode gb_Integer_numberOfLeadingZeros 8 = .ok (.bipush 32, 2) := by decide +kernel
theorem gd_Integer_numberOfLeadingZeros_10 : decode gb_Integer_numberOfLeadingZeros 10 = .ok (.goto 4, 3) := by decide +kernel
theorem gd_Integer_numberOfLeadingZeros_13 : decode gb_Integer_numberOfLeadingZeros 13 = .ok (.iconst 0, 1) := by decide +kernel
theorem gd_Integer_numberOfLeadingZeros_14 : decode gb_Integer_numberOfLeadingZeros 14 = .ok (.ireturn, 1) := by decide +kernel
theorem gd_Integer_numberOfLeadingZeros_15 : decode gb_Integer_numberOfLeadingZeros 15 = .ok (.bipush 31, 2) := by decide +kernel
theorem gd_Integer_numberOfLeadingZeros_17 : decode gb_Integer_numberOfLeadingZeros 17 = .ok (.istore_n 1, 1) := by decide +kernel
theorem gd_Integer_numberOfLeadingZeros_18 : decode gb_Integer_numberOfLeadingZeros 18 = .ok (.iload_n 0, 1) := by decide +kernel
theorem gd_Integer_numberOfLeadingZeros_19 : decode gb_Integer_numberOfLeadingZeros 19 = .ok (.ldc_w 264, 3) := by decide +kernel
theorem gd_Integer_numberOfLeadingZeros_22 : decode gb_Integer_numberOfLeadingZeros 22 = .ok (.if_icmp .lt 11, 3) := by decide +kernel
theorem gd_Integer_numberOfLeadingZeros_25 : decode gb_Integer_numberOfLeadingZeros 25 = .ok (.iinc 1 (-16), 3) := by decide +kernel
theorem gd_Integer_numberOfLeadingZeros_28 : decode gb_Integer_numberOfLeadingZeros 28 = .ok (.iload_n 0, 1) := by decide +kernel
theorem gd_Integer_numberOfLeadingZeros_29 : decode gb_Integer_numberOfLeadingZeros 29 = .ok (.bipush 16, 2) := by decide +kernel
theorem gd_Integer_numberOfLeadingZeros_31 : decode gb_Integer_numberOfLeadingZeros 31 = .ok (.iushr, 1) := by decide +kernel
theorem gd_Integer_numberOfLeadingZeros_32 : decode gb_Integer_numberOfLeadingZeros 32 = .ok (.istore_n 0, 1) := by decide +kernel
theorem gd_Integer_numberOfLeadingZeros_33 : decode gb_Integer_numberOfLeadingZeros 33 = .ok (.iload_n 0, 1) := by decide +kernel
theorem gd_Integer_numberOfLeadingZeros_34 : decode gb_Integer_numberOfLeadingZeros 34 = .ok (.sipush 256, 3) := by decide +kernel
theorem gd_Integer_numberOfLeadingZeros_37 : decode gb_Integer_numberOfLeadingZeros 37 = .ok (.if_icmp .lt 11, 3) := by decide +kernel
theorem gd_Integer_numberOfLeadingZeros_40 : decode gb_Integer_numberOfLeadingZeros 40 = .ok (.iinc 1 (-8), 3) := by decide +kernel
theorem gd_Integer_numberOfLeadingZeros_43 : decode gb_Integer_numberOfLeadingZeros 43 = .ok (.iload_n 0, 1) := by decide +kernel
theorem gd_Integer_numberOfLeadingZeros_44 : decode gb_Integer_numberOfLeadingZeros 44 = .ok (.bipush 8, 2) := by decide +kernel
theorem gd_Integer_numberOfLeadingZeros_46 : decode gb_Integer_numberOfLeadingZeros 46 = .ok (.iushr, 1) := by decide +kernel
theorem gd_Integer_numberOfLeadingZeros_47 : decode gb_Integer_numberOfLeadingZeros 47 = .ok (.istore_n 0, 1) := by decide +kernel
theorem gd_Integer_numberOfLeadingZeros_48 : decode gb_Integer_numberOfLeadingZeros 48 = .ok (.iload_n 0, 1) := by decide +kernel
theorem gd_Integer_numberOfLeadingZeros_49 : decode gb_Integer_numberOfLeadingZeros 49 = .ok (.bipush 16, 2) := by decide +kernel
theorem gd_Integer_numberOfLeadingZeros_51 : decode gb_Integer_numberOfLeadingZeros 51 = .ok (.if_icmp .lt 10, 3) := by decide +kernel
theorem gd_Integer_numberOfLeadingZeros_54 : decode gb_Integer_numberOfLeadingZeros 54 = .ok (.iinc 1 (-4), 3) := by decide +kernel
theorem gd_Integer_numberOfLeadingZeros_57 : decode gb_Integer_numberOfLeadingZeros 57 = .ok (.iload_n 0, 1) := by decide +kernel
theorem gd_Integer_numberOfLeadingZeros_58 : decode gb_Integer_numberOfLeadingZeros 58 = .ok (.iconst 4, 1) := by decide +kernel
theorem gd_Integer_numberOfLeadingZeros_59 : decode gb_Integer_numberOfLeadingZeros 59 = .ok (.iushr, 1) := by decide +kernel
theorem gd_Integer_numberOfLeadingZeros_60 : decode gb_Integer_numberOfLeadingZeros 60 = .ok (.istore_n 0, 1) := by decide +kernel
theorem gd_Integer_numberOfLeadingZeros_61 : decode gb_Integer_numberOfLeadingZeros 61 = .ok (.iload_n 0, 1) := by decide +kernel
theorem gd_Integer_numberOfLeadingZeros_62 : decode gb_Integer_numberOfLeadingZeros 62 = .ok (.iconst 4, 1) := by decide +kernel
theorem gd_Integer_numberOfLeadingZeros_63 : decode gb_Integer_numberOfLeadingZeros 63 = .ok (.if_icmp .lt 10, 3) := by decide +kernel
theorem gd_Integer_numberOfLeadingZeros_66 : decode gb_Integer_numberOfLeadingZeros 66 = .ok (.iinc 1 (-2), 3) := by decide +kernel
theorem gd_Integer_numberOfLeadingZeros_69 : decode gb_Integer_numberOfLeadingZeros 69 = .ok (.iload_n 0, 1) := by decide +kernel
theorem gd_Integer_numberOfLeadingZeros_70 : decode gb_Integer_numberOfLeadingZeros 70 = .ok (.iconst 2, 1) := by decide +kernel
theorem gd_Integer_numberOfLeadingZeros_71 : decode gb_Integer_numberOfLeadingZeros 71 = .ok (.iushr, 1) := by decide +kernel
theorem gd_Integer_numberOfLeadingZeros_72 : decode gb_Integer_numberOfLeadingZeros 72 = .ok (.istore_n 0, 1) := by decide +kernel
theorem gd_Integer_numberOfLeadingZeros_73 : decode gb_Integer_numberOfLeadingZeros 73 = .ok (.iload_n 1, 1) := by decide +kernel
theorem gd_Integer_numberOfLeadingZeros_74 : decode gb_Integer_numberOfLeadingZeros 74 = .ok (.iload_n 0, 1) := by decide +kernel
theorem gd_Integer_numberOfLeadingZeros_75 : decode gb_Integer_numberOfLeadingZeros 75 = .ok (.iconst 1, 1) := by decide +kernel
theorem gd_Integer_numberOfLeadingZeros_76 : decode gb_Integer_numberOfLeadingZeros 76 = .ok (.iushr, 1) := by decide +kernel
theorem gd_Integer_numberOfLeadingZeros_77 : decode gb_Integer_numberOfLeadingZeros 77 = .ok (.isub, 1) := by decide +kernel
theorem gd_Integer_numberOfLeadingZeros_78 : decode gb_Integer_numberOfLeadingZeros 78 = .ok (.ireturn, 1) := by decide +kernel
def gf_Integer_numberOfLeadingZeros_b14 (F : Nat) (z : gw_Sh)  (u : gw_St) (sx0 : Int32) : Option (Int32 × gw_St) :=
  some (sx0, u)
def gf_Integer_numberOfLeadingZeros_b73 (F : Nat) (z : gw_Sh)  (u : gw_St) (x0 : Int32) (x1 : Int32) : Option (Int32 × gw_St) :=
  some ((x1 - (((x0).toUInt32 >>> (((1 : Int32)).toUInt32 &&& Int32.toUInt32 31)).toInt32)), u)
def gf_Integer_numberOfLeadingZeros_b61 (F : Nat) (z : gw_Sh)  (u : gw_St) (x0 : Int32) (x1 : Int32) : Option (Int32 × gw_St) :=
  if x0 < (4 : Int32) then (gf_Integer_numberOfLeadingZeros_b73 F z  u x0 x1) else (gf_nm (x1 + (-2)) fun a2 => gf_nm (((x0).toUInt32 >>> (((2 : Int32)).toUInt32 &&& Int32.toUInt32 31)).toInt32) fun a4 => gf_Integer_numberOfLeadingZeros_b73 F z  u a4 a2)
def gf_Integer_numberOfLeadingZeros_b48 (F : Nat) (z : gw_Sh)  (u : gw_St) (x0 : Int32) (x1 : Int32) : Option (Int32 × gw_St) :=
  if x0 < (16 : Int32) then (gf_Integer_numberOfLeadingZeros_b61 F z  u x0 x1) else (gf_nm (x1 + (-4)) fun a7 => gf_nm (((x0).toUInt32 >>> (((4 : Int32)).toUInt32 &&& Int32.toUInt32 31)).toInt32) fun a9 => gf_Integer_numberOfLeadingZeros_b61 F z  u a9 a7)
def gf_Integer_numberOfLeadingZeros_b33 (F : Nat) (z : gw_Sh)  (u : gw_St) (x0 : Int32) (x1 : Int32) : Option (Int32 × gw_St) :=
  if x0 < (256 : Int32) then (gf_Integer_numberOfLeadingZeros_b48 F z  u x0 x1) else (gf_nm (x1 + (-8)) fun a12 => gf_nm (((x0).toUInt32 >>> (((8 : Int32)).toUInt32 &&& Int32.toUInt32 31)).toInt32) fun a14 => gf_Integer_numberOfLeadingZeros_b48 F z  u a14 a12)
def gf_Integer_numberOfLeadingZeros_b0 (F : Nat) (z : gw_Sh)  (u : gw_St) (x0 : Int32) : Option (Int32 × gw_St) :=
  if 0 < x0 then (if x0 < (65536 : Int32) then (gf_Integer_numberOfLeadingZeros_b33 F z  u x0 31) else (gf_nm (31 + (-16)) fun a18 => gf_nm (((x0).toUInt32 >>> (((16 : Int32)).toUInt32 &&& Int32.toUInt32 31)).toInt32) fun a20 => gf_Integer_numberOfLeadingZeros_b33 F z  u a20 a18)) else (if x0 = 0 then (gf_Integer_numberOfLeadingZeros_b14 F z  u 32) else (gf_Integer_numberOfLeadingZeros_b14 F z  u 0))
def gf_Integer_numberOfLeadingZeros (F : Nat) (z : gw_Sh) (u : gw_St) (x0 : Int32) : Option (Int32 × gw_St) := gf_Integer_numberOfLeadingZeros_b0 F z  u x0
set_option maxHeartbeats 4000000 in
set_option maxRecDepth 20000 in
theorem gx_Integer_numberOfLeadingZeros_b14 {p : Program} {l : Launch} {e : Env} {s : State} {m : MethodId} {args : Array Value} {below : List Frame} {meth : Method} {c : Code} {D : va_G} {cA : Nat → ClassId} {hs : Nat → Nat} {z : gw_Sh} (F : Nat) {r0 : (Int32 × gw_St)} (C : gw_Cx p s m args c gb_Integer_numberOfLeadingZeros 2 "java/lang/Integer" D cA) (hr : meth.sig.returnType = (some .int)) (hk : meth.locks = false) (u : gw_St) (sx0 : Int32)  {H : Heap} {locs : List Loc} {ls : Array Slot} (hW : gw_Wx D cA hs z s u H locs) (hl : lv_has ls 2 []) (h : gf_Integer_numberOfLeadingZeros_b14 F z   u sx0 = some r0) : gw_Gi p l e gr_Integer_numberOfLeadingZeros s m args below meth c D cA hs z r0 H locs ls 14 [.int sx0] := by
  obtain ⟨hx, hb, hml, hown, hts, hK⟩ := id C
  unfold gf_Integer_numberOfLeadingZeros_b14 at h
  obtain rfl := Option.some.inj h
  exact gw_iret C hW hr hk gd_Integer_numberOfLeadingZeros_14

set_option maxHeartbeats 4000000 in
set_option maxRecDepth 20000 in
theorem gx_Integer_numberOfLeadingZeros_b73 {p : Program} {l : Launch} {e : Env} {s : State} {m : MethodId} {args : Array Value} {below : List Frame} {meth : Method} {c : Code} {D : va_G} {cA : Nat → ClassId} {hs : Nat → Nat} {z : gw_Sh} (F : Nat) {r0 : (Int32 × gw_St)} (C : gw_Cx p s m args c gb_Integer_numberOfLeadingZeros 2 "java/lang/Integer" D cA) (hr : meth.sig.returnType = (some .int)) (hk : meth.locks = false) (u : gw_St) (x0 : Int32) (x1 : Int32)  {H : Heap} {locs : List Loc} {ls : Array Slot} (hW : gw_Wx D cA hs z s u H locs) (hl : lv_has ls 2 [(0, .int x0), (1, .int x1)]) (h : gf_Integer_numberOfLeadingZeros_b73 F z   u x0 x1 = some r0) : gw_Gi p l e gr_Integer_numberOfLeadingZeros s m args below meth c D cA hs z r0 H locs ls 73 [] := by
  obtain ⟨hx, hb, hml, hown, hts, hK⟩ := id C
  unfold gf_Integer_numberOfLeadingZeros_b73 at h
  refine lv_iload_n hx hb gd_Integer_numberOfLeadingZeros_73 rfl (lv_at hl 1 rfl) ?_
  refine lv_iload_n hx hb gd_Integer_numberOfLeadingZeros_74 rfl (lv_at hl 0 rfl) ?_
  refine lv_iconst (v := 1) hx hb gd_Integer_numberOfLeadingZeros_75 (by decide) ?_
  refine lv_iushr hx hb gd_Integer_numberOfLeadingZeros_76 rfl ?_
  refine lv_isub hx hb gd_Integer_numberOfLeadingZeros_77 ?_
  obtain rfl := Option.some.inj h
  exact gw_iret C hW hr hk gd_Integer_numberOfLeadingZeros_78

set_option maxHeartbeats 4000000 in
set_option maxRecDepth 20000 in
theorem gx_Integer_numberOfLeadingZeros_b61 {p : Program} {l : Launch} {e : Env} {s : State} {m : MethodId} {args : Array Value} {below : List Frame} {meth : Method} {c : Code} {D : va_G} {cA : Nat → ClassId} {hs : Nat → Nat} {z : gw_Sh} (F : Nat) {r0 : (Int32 × gw_St)} (C : gw_Cx p s m args c gb_Integer_numberOfLeadingZeros 2 "java/lang/Integer" D cA) (hr : meth.sig.returnType = (some .int)) (hk : meth.locks = false) (u : gw_St) (x0 : Int32) (x1 : Int32)  {H : Heap} {locs : List Loc} {ls : Array Slot} (hW : gw_Wx D cA hs z s u H locs) (hl : lv_has ls 2 [(0, .int x0), (1, .int x1)]) (h : gf_Integer_numberOfLeadingZeros_b61 F z   u x0 x1 = some r0) : gw_Gi p l e gr_Integer_numberOfLeadingZeros s m args below meth c D cA hs z r0 H locs ls 61 [] := by
  obtain ⟨hx, hb, hml, hown, hts, hK⟩ := id C
  unfold gf_Integer_numberOfLeadingZeros_b61 at h
  refine lv_iload_n hx hb gd_Integer_numberOfLeadingZeros_61 rfl (lv_at hl 0 rfl) ?_
  refine lv_iconst (v := 4) hx hb gd_Integer_numberOfLeadingZeros_62 (by decide) ?_
  refine lv_icmp_lt (tgt := 73) hx hb gd_Integer_numberOfLeadingZeros_63 (by decide) (fun c1 => ?_) (fun c1 => ?_)
  · have h := gf_t c1 h
    exact gx_Integer_numberOfLeadingZeros_b73 F C hr hk  u x0 x1  hW (lv_sub hl [0, 1] rfl) h
  · have h := gf_f c1 h
    obtain ⟨a2, e3⟩ : ∃ y : Int32, y = x1 + (-2) := ⟨_, rfl⟩
    have h := gf_nm_ok e3 h
    refine lv_iinc (v := a2) (lv' := [(1, .int a2), (0, .int x0)]) hx hb gd_Integer_numberOfLeadingZeros_66 hl (k := 1) rfl (by rw [e3]; rfl) (by decide) rfl (fun ls hl => ?_)
    refine lv_iload_n hx hb gd_Integer_numberOfLeadingZeros_69 rfl (lv_at hl 1 rfl) ?_
    refine lv_iconst (v := 2) hx hb gd_Integer_numberOfLeadingZeros_70 (by decide) ?_
    refine lv_iushr hx hb gd_Integer_numberOfLeadingZeros_71 rfl ?_
    refine lv_topi (fun a4 e5 => ?_)
    have h := gf_nm_ok e5 h
    refine lv_istore_n (lv' := [(0, .int a4), (1, .int a2)]) hx hb gd_Integer_numberOfLeadingZeros_72 rfl hl (by decide) rfl (fun ls hl => ?_)
    exact gx_Integer_numberOfLeadingZeros_b73 F C hr hk  u a4 a2  hW (lv_sub hl [0, 1] rfl) h

set_option maxHeartbeats 4000000 in
set_option maxRecDepth 20000 in
theorem gx_Integer_numberOfLeadingZeros_b48 {p : Program} {l : Launch} {e : Env} {s : State} {m : MethodId} {args : Array Value} {below : List Frame} {meth : Method} {c : Code} {D : va_G} {cA : Nat → ClassId} {hs : Nat → Nat} {z : gw_Sh} (F : Nat) {r0 : (Int32 × gw_St)} (C : gw_Cx p s m args c gb_Integer_numberOfLeadingZeros 2 "java/lang/Integer" D cA) (hr : meth.sig.returnType = (some .int)) (hk : meth.locks = false) (u : gw_St) (x0 : Int32) (x1 : Int32)  {H : Heap} {locs : List Loc} {ls : Array Slot} (hW : gw_Wx D cA hs z s u H locs) (hl : lv_has ls 2 [(0, .int x0), (1, .int x1)]) (h : gf_Integer_numberOfLeadingZeros_b48 F z   u x0 x1 = some r0) : gw_Gi p l e gr_Integer_numberOfLeadingZeros s m args below meth c D cA hs z r0 H locs ls 48 [] := by
  obtain ⟨hx, hb, hml, hown, hts, hK⟩ := id C
  unfold gf_Integer_numberOfLeadingZeros_b48 at h
  refine lv_iload_n hx hb gd_Integer_numberOfLeadingZeros_48 rfl (lv_at hl 0 rfl) ?_
  refine lv_bipush (v := 16) hx hb gd_Integer_numberOfLeadingZeros_49 (by decide) ?_
  refine lv_icmp_lt (tgt := 61) hx hb gd_Integer_numberOfLeadingZeros_51 (by decide) (fun c6 => ?_) (fun c6 => ?_)
  · have h := gf_t c6 h
    exact gx_Integer_numberOfLeadingZeros_b61 F C hr hk  u x0 x1  hW (lv_sub hl [0, 1] rfl) h
  · have h := gf_f c6 h
    obtain ⟨a7, e8⟩ : ∃ y : Int32, y = x1 + (-4) := ⟨_, rfl⟩
    have h := gf_nm_ok e8 h
    refine lv_iinc (v := a7) (lv' := [(1, .int a7), (0, .int x0)]) hx hb gd_Integer_numberOfLeadingZeros_54 hl (k := 1) rfl (by rw [e8]; rfl) (by decide) rfl (fun ls hl => ?_)
    refine lv_iload_n hx hb gd_Integer_numberOfLeadingZeros_57 rfl (lv_at hl 1 rfl) ?_
    refine lv_iconst (v := 4) hx hb gd_Integer_numberOfLeadingZeros_58 (by decide) ?_
    refine lv_iushr hx hb gd_Integer_numberOfLeadingZeros_59 rfl ?_
    refine lv_topi (fun a9 e10 => ?_)
    have h := gf_nm_ok e10 h
    refine lv_istore_n (lv' := [(0, .int a9), (1, .int a7)]) hx hb gd_Integer_numberOfLeadingZeros_60 rfl hl (by decide) rfl (fun ls hl => ?_)
    exact gx_Integer_numberOfLeadingZeros_b61 F C hr hk  u a9 a7  hW (lv_sub hl [0, 1] rfl) h

set_option maxHeartbeats 4000000 in
set_option maxRecDepth 20000 in
theorem gx_Integer_numberOfLeadingZeros_b33 {p : Program} {l : Launch} {e : Env} {s : State} {m : MethodId} {args : Array Value} {below : List Frame} {meth : Method} {c : Code} {D : va_G} {cA : Nat → ClassId} {hs : Nat → Nat} {z : gw_Sh} (F : Nat) {r0 : (Int32 × gw_St)} (C : gw_Cx p s m args c gb_Integer_numberOfLeadingZeros 2 "java/lang/Integer" D cA) (hr : meth.sig.returnType = (some .int)) (hk : meth.locks = false) (u : gw_St) (x0 : Int32) (x1 : Int32)  {H : Heap} {locs : List Loc} {ls : Array Slot} (hW : gw_Wx D cA hs z s u H locs) (hl : lv_has ls 2 [(0, .int x0), (1, .int x1)]) (h : gf_Integer_numberOfLeadingZeros_b33 F z   u x0 x1 = some r0) : gw_Gi p l e gr_Integer_numberOfLeadingZeros s m args below meth c D cA hs z r0 H locs ls 33 [] := by
  obtain ⟨hx, hb, hml, hown, hts, hK⟩ := id C
  unfold gf_Integer_numberOfLeadingZeros_b33 at h
  refine lv_iload_n hx hb gd_Integer_numberOfLeadingZeros_33 rfl (lv_at hl 0 rfl) ?_
  refine lv_sipush (v := 256) hx hb gd_Integer_numberOfLeadingZeros_34 (by decide) ?_
  refine lv_icmp_lt (tgt := 48) hx hb gd_Integer_numberOfLeadingZeros_37 (by decide) (fun c11 => ?_) (fun c11 => ?_)
  · have h := gf_t c11 h
    exact gx_Integer_numberOfLeadingZeros_b48 F C hr hk  u x0 x1  hW (lv_sub hl [0, 1] rfl) h
  · have h := gf_f c11 h
    obtain ⟨a12, e13⟩ : ∃ y : Int32, y = x1 + (-8) := ⟨_, rfl⟩
    have h := gf_nm_ok e13 h
    refine lv_iinc (v := a12) (lv' := [(1, .int a12), (0, .int x0)]) hx hb gd_Integer_numberOfLeadingZeros_40 hl (k := 1) rfl (by rw [e13]; rfl) (by decide) rfl (fun ls hl => ?_)
    refine lv_iload_n hx hb gd_Integer_numberOfLeadingZeros_43 rfl (lv_at hl 1 rfl) ?_
    refine lv_bipush (v := 8) hx hb gd_Integer_numberOfLeadingZeros_44 (by decide) ?_
    refine lv_iushr hx hb gd_Integer_numberOfLeadingZeros_46 rfl ?_
    refine lv_topi (fun a14 e15 => ?_)
    have h := gf_nm_ok e15 h
    refine lv_istore_n (lv' := [(0, .int a14), (1, .int a12)]) hx hb gd_Integer_numberOfLeadingZeros_47 rfl hl (by decide) rfl (fun ls hl => ?_)
    exact gx_Integer_numberOfLeadingZeros_b48 F C hr hk  u a14 a12  hW (lv_sub hl [0, 1] rfl) h

set_option maxHeartbeats 4000000 in
set_option maxRecDepth 20000 in
theorem gx_Integer_numberOfLeadingZeros_b0 {p : Program} {l : Launch} {e : Env} {s : State} {m : MethodId} {args : Array Value} {below : List Frame} {meth : Method} {c : Code} {D : va_G} {cA : Nat → ClassId} {hs : Nat → Nat} {z : gw_Sh} (F : Nat) {r0 : (Int32 × gw_St)} (C : gw_Cx p s m args c gb_Integer_numberOfLeadingZeros 2 "java/lang/Integer" D cA) (hr : meth.sig.returnType = (some .int)) (hk : meth.locks = false) (u : gw_St) (x0 : Int32)  {H : Heap} {locs : List Loc} {ls : Array Slot} (hW : gw_Wx D cA hs z s u H locs) (hl : lv_has ls 2 [(0, .int x0)]) (h : gf_Integer_numberOfLeadingZeros_b0 F z   u x0 = some r0) : gw_Gi p l e gr_Integer_numberOfLeadingZeros s m args below meth c D cA hs z r0 H locs ls 0 [] := by
  obtain ⟨hx, hb, hml, hown, hts, hK⟩ := id C
  unfold gf_Integer_numberOfLeadingZeros_b0 at h
  refine lv_iload_n hx hb gd_Integer_numberOfLeadingZeros_0 rfl (lv_at hl 0 rfl) ?_
  refine lv_if_gt (tgt := 15) hx hb gd_Integer_numberOfLeadingZeros_1 (by decide) (fun c16 => ?_) (fun c16 => ?_)
  · have h := gf_t c16 h
    refine lv_bipush (v := 31) hx hb gd_Integer_numberOfLeadingZeros_15 (by decide) ?_
    refine lv_istore_n (lv' := [(1, .int 31), (0, .int x0)]) hx hb gd_Integer_numberOfLeadingZeros_17 rfl hl (by decide) rfl (fun ls hl => ?_)
    refine lv_iload_n hx hb gd_Integer_numberOfLeadingZeros_18 rfl (lv_at hl 1 rfl) ?_
    refine lv_ldcw (v := 65536) hx hb hown (hts _ gk_6) gd_Integer_numberOfLeadingZeros_19 ?_
    refine lv_icmp_lt (tgt := 33) hx hb gd_Integer_numberOfLeadingZeros_22 (by decide) (fun c17 => ?_) (fun c17 => ?_)
    · have h := gf_t c17 h
      exact gx_Integer_numberOfLeadingZeros_b33 F C hr hk  u x0 31  hW (lv_sub hl [1, 0] rfl) h
    · have h := gf_f c17 h
      obtain ⟨a18, e19⟩ : ∃ y : Int32, y = 31 + (-16) := ⟨_, rfl⟩
      have h := gf_nm_ok e19 h
      refine lv_iinc (v := a18) (lv' := [(1, .int a18), (0, .int x0)]) hx hb gd_Integer_numberOfLeadingZeros_25 hl (k := 0) rfl (by rw [e19]; rfl) (by decide) rfl (fun ls hl => ?_)
      refine lv_iload_n hx hb gd_Integer_numberOfLeadingZeros_28 rfl (lv_at hl 1 rfl) ?_
      refine lv_bipush (v := 16) hx hb gd_Integer_numberOfLeadingZeros_29 (by decide) ?_
      refine lv_iushr hx hb gd_Integer_numberOfLeadingZeros_31 rfl ?_
      refine lv_topi (fun a20 e21 => ?_)
      have h := gf_nm_ok e21 h
      refine lv_istore_n (lv' := [(0, .int a20), (1, .int a18)]) hx hb gd_Integer_numberOfLeadingZeros_32 rfl hl (by decide) rfl (fun ls hl => ?_)
      exact gx_Integer_numberOfLeadingZeros_b33 F C hr hk  u a20 a18  hW (lv_sub hl [0, 1] rfl) h
  · have h := gf_f c16 h
    refine lv_iload_n hx hb gd_Integer_numberOfLeadingZeros_4 rfl (lv_at hl 0 rfl) ?_
    refine lv_if_ne (tgt := 13) hx hb gd_Integer_numberOfLeadingZeros_5 (by decide) (fun c22 => ?_) (fun c22 => ?_)
    · have h := gf_f c22 h
      refine lv_iconst (v := 0) hx hb gd_Integer_numberOfLeadingZeros_13 (by decide) ?_
      exact gx_Integer_numberOfLeadingZeros_b14 F C hr hk  u 0  hW (lv_sub hl [] rfl) h
    · have h := gf_t c22 h
      refine lv_bipush (v := 32) hx hb gd_Integer_numberOfLeadingZeros_8 (by decide) ?_
      refine lv_goto (tgt := 14) hx hb gd_Integer_numberOfLeadingZeros_10 (by decide) ?_
      exact gx_Integer_numberOfLeadingZeros_b14 F C hr hk  u 32  hW (lv_sub hl [] rfl) h

set_option maxRecDepth 20000 in
theorem gc_Integer_numberOfLeadingZeros (l : Launch) {D : va_G} {cA : Nat → ClassId} {hs : Nat → Nat} {z : gw_Sh} (F : Nat) {u : gw_St} {r0 : (Int32 × gw_St)} {x0 : Int32}  (h : gf_Integer_numberOfLeadingZeros F z u x0 = some r0) (sz : Nat) : gw_Mi l gy_Integer_numberOfLeadingZeros gb_Integer_numberOfLeadingZeros 2 (some .int) gr_Integer_numberOfLeadingZeros [.int x0] D cA hs z u sz r0 := by
  refine gw_enter (by decide) (Nat.le_of_ble_eq_true rfl) ?_
  intro p e s m below meth c ls hsz C hW hr hk _ hl
  subst hsz
  exact gx_Integer_numberOfLeadingZeros_b0 F C hr hk u x0  hW (lv_sub hl [0] rfl) h
-- java/lang/Integer.signum(I)I
def gy_Integer_signum : MethodName := ⟨"java/lang/Integer", "signum", "(I)I"⟩
abbrev gb_Integer_signum : ByteArray := prog_19_method_56_code
theorem gk_9 : Cond.code gy_Integer_signum gb_Integer_signum 1 (some .int) ∈ gt_T := gt_m5 (List.mem_of_getElem? (i := 90) rfl) rfl
def gr_Integer_signum : Room := gw_rm 1 64
theorem gm_Integer_signum : gw_Mth gy_Integer_signum gb_Integer_signum 1 (some .int) 1 := ⟨gk_9, gk_7, ⟨by decide +kernel, by decide +kernel⟩, by decide +kernel⟩
theorem gd_Integer_signum_0 : decode gb_Integer_signum 0 = .ok (.iload_n 0, 1) := by decide +kernel
theorem gd_Integer_signum_1 : decode gb_Integer_signum 1 = .ok (.bipush 31, 2) := by decide +kernel
theorem gd_Integer_signum_3 : decode gb_Integer_signum 3 = .ok (.ishr, 1) := by decide +kernel
theorem gd_Integer_signum_4 : decode gb_Integer_signum 4 = .ok (.iload_n 0, 1) := by decide +kernel
theorem gd_Integer_signum_5 : decode gb_Integer_signum 5 = .ok (.ineg, 1) := by decide +kernel
theorem gd_Integer_signum_6 : decode gb_Integer_signum 6 = .ok (.bipush 31, 2) := by decide +kernel
theorem gd_Integer_signum_8 : decode gb_Integer_signum 8 = .ok (.iushr, 1) := by decide +kernel
theorem gd_Integer_signum_9 : decode gb_Integer_signum 9 = .ok (.ior, 1) := by decide +kernel
theorem gd_Integer_signum_10 : decode gb_Integer_signum 10 = .ok (.ireturn, 1) := by decide +kernel
def gf_Integer_signum_b0 (F : Nat) (z : gw_Sh)  (u : gw_St) (x0 : Int32) : Option (Int32 × gw_St) :=
  some (((x0 >>> ((31 : Int32) &&& 31)) ||| ((((-x0)).toUInt32 >>> (((31 : Int32)).toUInt32 &&& Int32.toUInt32 31)).toInt32)), u)
def gf_Integer_signum (F : Nat) (z : gw_Sh) (u : gw_St) (x0 : Int32) : Option (Int32 × gw_St) := gf_Integer_signum_b0 F z  u x0
set_option maxHeartbeats 4000000 in
set_option maxRecDepth 20000 in
theorem gx_Integer_signum_b0 {p : Program} {l : Launch} {e : Env} {s : State} {m : MethodId} {args : Array Value} {below : List Frame} {meth : Method} {c : Code} {D : va_G} {cA : Nat → ClassId} {hs : Nat → Nat} {z : gw_Sh} (F : Nat) {r0 : (Int32 × gw_St)} (C : gw_Cx p s m args c gb_Integer_signum 1 "java/lang/Integer" D cA) (hr : meth.sig.returnType = (some .int)) (hk : meth.locks = false) (u : gw_St) (x0 : Int32)  {H : Heap} {locs : List Loc} {ls : Array Slot} (hW : gw_Wx D cA hs z s u H locs) (hl : lv_has ls 1 [(0, .int x0)]) (h : gf_Integer_signum_b0 F z   u x0 = some r0) : gw_Gi p l e gr_Integer_signum s m args below meth c D cA hs z r0 H locs ls 0 [] := by
  obtain ⟨hx, hb, hml, hown, hts, hK⟩ := id C
  unfold gf_Integer_signum_b0 at h
  refine lv_iload_n hx hb gd_Integer_signum_0 rfl (lv_at hl 0 rfl) ?_
  refine lv_bipush (v := 31) hx hb gd_Integer_signum_1 (by decide) ?_
  refine lv_ishr hx hb gd_Integer_signum_3 ?_
  refine lv_iload_n hx hb gd_Integer_signum_4 rfl (lv_at hl 0 rfl) ?_
  refine lv_ineg hx hb gd_Integer_signum_5 ?_
  refine lv_bipush (v := 31) hx hb gd_Integer_signum_6 (by decide) ?_
  refine lv_iushr hx hb gd_Integer_signum_8 rfl ?_
  refine lv_ior hx hb gd_Integer_signum_9 ?_
  obtain rfl := Option.some.inj h
  exact gw_iret C hW hr hk gd_Integer_signum_10

set_option maxRecDepth 20000 in
theorem gc_Integer_signum (l : Launch) {D : va_G} {cA : Nat → ClassId} {hs : Nat → Nat} {z : gw_Sh} (F : Nat) {u : gw_St} {r0 : (Int32 × gw_St)} {x0 : Int32}  (h : gf_Integer_signum F z u x0 = some r0) (sz : Nat) : gw_Mi l gy_Integer_signum gb_Integer_signum 1 (some .int) gr_Integer_signum [.int x0] D cA hs z u sz r0 := by
  refine gw_enter (by decide) (Nat.le_of_ble_eq_true rfl) ?_
  intro p e s m below meth c ls hsz C hW hr hk _ hl
  subst hsz
  exact gx_Integer_signum_b0 F C hr hk u x0  hW (lv_sub hl [0] rfl) h
-- java/lang/Long.compare(JJ)I
theorem gk_10 : Cond.initialized "java/lang/Long" ∈ gt_T := gt_m1 (List.mem_of_getElem? (i := 10) rfl) rfl
def gy_Long_compare : MethodName := ⟨"java/lang/Long", "compare", "(JJ)I"⟩
abbrev gb_Long_compare : ByteArray := prog_20_method_42_code
theorem gk_11 : Cond.code gy_Long_compare gb_Long_compare 4 (some .int) ∈ gt_T := gt_m4 (List.mem_of_getElem? (i := 128) rfl) rfl
def gr_Long_compare : Room := gw_rm 1 64
theorem gm_Long_compare : gw_Mth gy_Long_compare gb_Long_compare 4 (some .int) 2 := ⟨gk_11, gk_10, ⟨by decide +kernel, by decide +kernel⟩, by decide +kernel⟩
theorem gd_Long_compare_0 : decode gb_Long_compare 0 = .ok (.lload_n 0, 1) := by decide +kernel
theorem gd_Long_compare_1 : decode gb_Long_compare 1 = .ok (.lload_n 2, 1) := by decide +kernel
theorem gd_Long_compare_2 : decode gb_Long_compare 2 = .ok (.lcmp, 1) := by decide +kernel
theorem gd_Long_compare_3 : decode gb_Long_compare 3 = .ok (.ifCond .ge 7, 3) := by decide +kernel
theorem gd_Long_compare_6 : decode gb_Long_compare 6 = .ok (.iconst (-1), 1) := by decide +kernel
theorem gd_Long_compare_7 : decode gb_Long_compare 7 = .ok (.goto 14, 3) := by decide +kernel
theorem gd_Long_compare_10 : decode gb_Long_compare 10 = .ok (.lload_n 0, 1) := by decide +kernel
theorem gd_Long_compare_11 : decode gb_Long_compare 11 = .ok (.lload_n 2, 1) := by decide +kernel
theorem gd_Long_compare_12 : decode gb_Long_compare 12 = .ok (.lcmp, 1) := by decide +kernel
theorem gd_Long_compare_13 : decode gb_Long_compare 13 = .ok (.ifCond .ne 7, 3) := by decide +kernel
theorem gd_Long_compare_16 : decode gb_Long_compare 16 = .ok (.iconst 0, 1) := by decide +kernel
theorem gd_Long_compare_17 : decode gb_Long_compare 17 = .ok (.goto 4, 3) := by decide +kernel
theorem gd_Long_compare_20 : decode gb_Long_compare 20 = .ok (.iconst 1, 1) := by decide +kernel
theorem gd_Long_compare_21 : decode gb_Long_compare 21 = .ok (.ireturn, 1) := by decide +kernel
def gf_Long_compare_b21 (F : Nat) (z : gw_Sh)  (u : gw_St) (sx0 : Int32) : Option (Int32 × gw_St) :=
  some (sx0, u)
def gf_Long_compare_b0 (F : Nat) (z : gw_Sh)  (u : gw_St) (y0 : Int64) (y2 : Int64) : Option (Int32 × gw_St) :=
  if 0 ≤ (lg_cmp y0 y2) then (if (lg_cmp y0 y2) = 0 then (gf_Long_compare_b21 F z  u 0) else (gf_Long_compare_b21 F z  u 1)) else (gf_Long_compare_b21 F z  u (-1))
def gf_Long_compare (F : Nat) (z : gw_Sh) (u : gw_St) (y0 : Int64) (y2 : Int64) : Option (Int32 × gw_St) := gf_Long_compare_b0 F z  u y0 y2
set_option maxHeartbeats 4000000 in
set_option maxRecDepth 20000 in
theorem gx_Long_compare_b21 {p : Program} {l : Launch} {e : Env} {s : State} {m : MethodId} {args : Array Value} {below : List Frame} {meth : Method} {c : Code} {D : va_G} {cA : Nat → ClassId} {hs : Nat → Nat} {z : gw_Sh} (F : Nat) {r0 : (Int32 × gw_St)} (C : gw_Cx p s m args c gb_Long_compare 4 "java/lang/Long" D cA) (hr : meth.sig.returnType = (some .int)) (hk : meth.locks = false) (u : gw_St) (sx0 : Int32)  {H : Heap} {locs : List Loc} {ls : Array Slot} (hW : gw_Wx D cA hs z s u H locs) (hl : lv_has ls 4 []) (h : gf_Long_compare_b21 F z   u sx0 = some r0) : gw_Gi p l e gr_Long_compare s m args below meth c D cA hs z r0 H locs ls 21 [.int sx0] := by
  obtain ⟨hx, hb, hml, hown, hts, hK⟩ := id C
  unfold gf_Long_compare_b21 at h
  obtain rfl := Option.some.inj h
  exact gw_iret C hW hr hk gd_Long_compare_21

set_option maxHeartbeats 4000000 in
set_option maxRecDepth 20000 in
theorem gx_Long_compare_b0 {p : Program} {l : Launch} {e : Env} {s : State} {m : MethodId} {args : Array Value} {below : List Frame} {meth : Method} {c : Code} {D : va_G} {cA : Nat → ClassId} {hs : Nat → Nat} {z : gw_Sh} (F : Nat) {r0 : (Int32 × gw_St)} (C : gw_Cx p s m args c gb_Long_compare 4 "java/lang/Long" D cA) (hr : meth.sig.returnType = (some .int)) (hk : meth.locks = false) (u : gw_St) (y0 : Int64) (y2 : Int64)  {H : Heap} {locs : List Loc} {ls : Array Slot} (hW : gw_Wx D cA hs z s u H locs) (hl : lv_has ls 4 [(0, .long y0), (2, .long y2)]) (h : gf_Long_compare_b0 F z   u y0 y2 = some r0) : gw_Gi p l e gr_Long_compare s m args below meth c D cA hs z r0 H locs ls 0 [] := by
  obtain ⟨hx, hb, hml, hown, hts, hK⟩ := id C
  unfold gf_Long_compare_b0 at h
  refine lv_lload_n hx hb gd_Long_compare_0 rfl (lv_at hl 0 rfl) ?_
  refine lv_lload_n hx hb gd_Long_compare_1 rfl (lv_at hl 1 rfl) ?_
  refine W.lcmp hx hb gd_Long_compare_2 ?_
  refine lv_if_ge (tgt := 10) hx hb gd_Long_compare_3 (by decide) (fun c1 => ?_) (fun c1 => ?_)
  · have h := gf_t c1 h
    refine lv_lload_n hx hb gd_Long_compare_10 rfl (lv_at hl 0 rfl) ?_
    refine lv_lload_n hx hb gd_Long_compare_11 rfl (lv_at hl 1 rfl) ?_
    refine W.lcmp hx hb gd_Long_compare_12 ?_
    refine lv_if_ne (tgt := 20) hx hb gd_Long_compare_13 (by decide) (fun c2 => ?_) (fun c2 => ?_)
    · have h := gf_f c2 h
      refine lv_iconst (v := 1) hx hb gd_Long_compare_20 (by decide) ?_
      exact gx_Long_compare_b21 F C hr hk  u 1  hW (lv_sub hl [] rfl) h
    · have h := gf_t c2 h
      refine lv_iconst (v := 0) hx hb gd_Long_compare_16 (by decide) ?_
      refine lv_goto (tgt := 21) hx hb gd_Long_compare_17 (by decide) ?_
      exact gx_Long_compare_b21 F C hr hk  u 0  hW (lv_sub hl [] rfl) h
  · have h := gf_f c1 h
    refine lv_iconst (v := (-1)) hx hb gd_Long_compare_6 (by decide) ?_
    refine lv_goto (tgt := 21) hx hb gd_Long_compare_7 (by decide) ?_
    exact gx_Long_compare_b21 F C hr hk  u (-1)  hW (lv_sub hl [] rfl) h

set_option maxRecDepth 20000 in
theorem gc_Long_compare (l : Launch) {D : va_G} {cA : Nat → ClassId} {hs : Nat → Nat} {z : gw_Sh} (F : Nat) {u : gw_St} {r0 : (Int32 × gw_St)} {y0 : Int64} {y2 : Int64}  (h : gf_Long_compare F z u y0 y2 = some r0) (sz : Nat) : gw_Mi l gy_Long_compare gb_Long_compare 4 (some .int) gr_Long_compare [.long y0, .long y2] D cA hs z u sz r0 := by
  refine gw_enter (by decide) (Nat.le_of_ble_eq_true rfl) ?_
  intro p e s m below meth c ls hsz C hW hr hk _ hl
  subst hsz
  exact gx_Long_compare_b0 F C hr hk u y0 y2  hW (lv_sub hl [0, 1] rfl) h
-- java/lang/Long.signum(J)I
def gy_Long_signum : MethodName := ⟨"java/lang/Long", "signum", "(J)I"⟩
abbrev gb_Long_signum : ByteArray := prog_20_method_57_code
theorem gk_12 : Cond.code gy_Long_signum gb_Long_signum 2 (some .int) ∈ gt_T := gt_m2 (List.mem_of_getElem? (i := 66) rfl) rfl
def gr_Long_signum : Room := gw_rm 1 64
theorem gm_Long_signum : gw_Mth gy_Long_signum gb_Long_signum 2 (some .int) 1 := ⟨gk_12, gk_10, ⟨by decide +kernel, by decide +kernel⟩, by decide +kernel⟩
theorem gd_Long_signum_0 : decode gb_Long_signum 0 = .ok (.lload_n 0, 1) := by decide +kernel
theorem gd_Long_signum_1 : decode gb_Long_signum 1 = .ok (.bipush 63, 2) := by decide +kernel
theorem gd_Long_signum_3 : decode gb_Long_signum 3 = .ok (.lshr, 1) := by decide +kernel
theorem gd_Long_signum_4 : decode gb_Long_signum 4 = .ok (.lload_n 0, 1) := by decide +kernel
theorem gd_Long_signum_5 : decode gb_Long_signum 5 = .ok (.lneg, 1) := by decide +kernel
theorem gd_Long_signum_6 : decode gb_Long_signum 6 = .ok (.bipush 63, 2) := by decide +kernel
theorem gd_Long_signum_8 : decode gb_Long_signum 8 = .ok (.lushr, 1) := by decide +kernel
theorem gd_Long_signum_9 : decode gb_Long_signum 9 = .ok (.lor, 1) := by decide +kernel
theorem gd_Long_signum_10 : decode gb_Long_signum 10 = .ok (.l2i, 1) := by decide +kernel
theorem gd_Long_signum_11 : decode gb_Long_signum 11 = .ok (.ireturn, 1) := by decide +kernel
def gf_Long_signum_b0 (F : Nat) (z : gw_Sh)  (u : gw_St) (y0 : Int64) : Option (Int32 × gw_St) :=
  some (((((y0 >>> (((63 : Int32)).toInt64 &&& 63)) ||| ((((-y0)).toUInt64 >>> (((63 : Int32)).toInt64.toUInt64 &&& Int64.toUInt64 63)).toInt64))).toInt32), u)
def gf_Long_signum (F : Nat) (z : gw_Sh) (u : gw_St) (y0 : Int64) : Option (Int32 × gw_St) := gf_Long_signum_b0 F z  u y0
set_option maxHeartbeats 4000000 in
set_option maxRecDepth 20000 in
theorem gx_Long_signum_b0 {p : Program} {l : Launch} {e : Env} {s : State} {m : MethodId} {args : Array Value} {below : List Frame} {meth : Method} {c : Code} {D : va_G} {cA : Nat → ClassId} {hs : Nat → Nat} {z : gw_Sh} (F : Nat) {r0 : (Int32 × gw_St)} (C : gw_Cx p s m args c gb_Long_signum 2 "java/lang/Long" D cA) (hr : meth.sig.returnType = (some .int)) (hk : meth.locks = false) (u : gw_St) (y0 : Int64)  {H : Heap} {locs : List Loc} {ls : Array Slot} (hW : gw_Wx D cA hs z s u H locs) (hl : lv_has ls 2 [(0, .long y0)]) (h : gf_Long_signum_b0 F z   u y0 = some r0) : gw_Gi p l e gr_Long_signum s m args below meth c D cA hs z r0 H locs ls 0 [] := by
  obtain ⟨hx, hb, hml, hown, hts, hK⟩ := id C
  unfold gf_Long_signum_b0 at h
  refine lv_lload_n hx hb gd_Long_signum_0 rfl (lv_at hl 0 rfl) ?_
  refine lv_bipush (v := 63) hx hb gd_Long_signum_1 (by decide) ?_
  refine lv_lshr hx hb gd_Long_signum_3 rfl ?_
  refine lv_lload_n hx hb gd_Long_signum_4 rfl (lv_at hl 0 rfl) ?_
  refine lv_lneg hx hb gd_Long_signum_5 ?_
  refine lv_bipush (v := 63) hx hb gd_Long_signum_6 (by decide) ?_
  refine lv_lushr hx hb gd_Long_signum_8 rfl ?_
  refine lv_lor hx hb gd_Long_signum_9 ?_
  refine lv_l2i hx hb gd_Long_signum_10 rfl ?_
  obtain rfl := Option.some.inj h
  exact gw_iret C hW hr hk gd_Long_signum_11

set_option maxRecDepth 20000 in
theorem gc_Long_signum (l : Launch) {D : va_G} {cA : Nat → ClassId} {hs : Nat → Nat} {z : gw_Sh} (F : Nat) {u : gw_St} {r0 : (Int32 × gw_St)} {y0 : Int64}  (h : gf_Long_signum F z u y0 = some r0) (sz : Nat) : gw_Mi l gy_Long_signum gb_Long_signum 2 (some .int) gr_Long_signum [.long y0] D cA hs z u sz r0 := by
  refine gw_enter (by decide) (Nat.le_of_ble_eq_true rfl) ?_
  intro p e s m below meth c ls hsz C hW hr hk _ hl
  subst hsz
  exact gx_Long_signum_b0 F C hr hk u y0  hW (lv_sub hl [0] rfl) h
