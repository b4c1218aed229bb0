-- GearDeskModel.reduce(J)I
theorem gk_498 : Cond.fieldLink R_Model 79 R_Model "rows" "[J" ∈ gt_T := gt_m6 (List.mem_of_getElem? (i := 91) rfl) rfl
theorem gk_499 : Cond.fieldLink R_Model 239 R_Model "rank" "I" ∈ gt_T := gt_m6 (List.mem_of_getElem? (i := 93) rfl) rfl
theorem gk_500 : Cond.fieldLink R_Model 83 R_Model "pivots" "[I" ∈ gt_T := gt_m6 (List.mem_of_getElem? (i := 92) rfl) rfl
def gy_Model_reduce : MethodName := ⟨R_Model, "reduce", "(J)I"⟩
abbrev gb_Model_reduce : ByteArray := prog_11_method_38_code
theorem gk_501 : Cond.code gy_Model_reduce gb_Model_reduce 7 (some .int) ∈ gt_T := gt_m7 (List.mem_of_getElem? (i := 109) rfl) rfl
def gr_Model_reduce : Room := gw_rm 1 64
theorem gm_Model_reduce : gw_Mth gy_Model_reduce gb_Model_reduce 7 (some .int) 1 := ⟨gk_501, gk_377, ⟨by decide +kernel, by decide +kernel⟩, by decide +kernel⟩
theorem gd_Model_reduce_0 : decode gb_Model_reduce 0 = .ok (.iconst 0, 1) := by decide +kernel
theorem gd_Model_reduce_1 : decode gb_Model_reduce 1 = .ok (.istore_n 3, 1) := by decide +kernel
theorem gd_Model_reduce_2 : decode gb_Model_reduce 2 = .ok (.iload_n 3, 1) := by decide +kernel
theorem gd_Model_reduce_3 : decode gb_Model_reduce 3 = .ok (.aload_n 0, 1) := by decide +kernel
theorem gd_Model_reduce_4 : decode gb_Model_reduce 4 = .ok (.getfield 239, 3) := by decide +kernel
theorem gd_Model_reduce_7 : decode gb_Model_reduce 7 = .ok (.if_icmp .ge 79, 3) := by decide +kernel
theorem gd_Model_reduce_10 : decode gb_Model_reduce 10 = .ok (.aload_n 0, 1) := by decide +kernel
theorem gd_Model_reduce_11 : decode gb_Model_reduce 11 = .ok (.getfield 86, 3) := by decide +kernel
theorem gd_Model_reduce_14 : decode gb_Model_reduce 14 = .ok (.aload_n 0, 1) := by decide +kernel
theorem gd_Model_reduce_15 : decode gb_Model_reduce 15 = .ok (.getfield 83, 3) := by decide +kernel
theorem gd_Model_reduce_18 : decode gb_Model_reduce 18 = .ok (.iload_n 3, 1) := by decide +kernel
theorem gd_Model_reduce_19 : decode gb_Model_reduce 19 = .ok (.iaload, 1) := by decide +kernel
theorem gd_Model_reduce_20 : decode gb_Model_reduce 20 = .ok (.laload, 1) := by decide +kernel
theorem gd_Model_reduce_21 : decode gb_Model_reduce 21 = .ok (.lstore 4, 2) := by decide +kernel
theorem gd_Model_reduce_23 : decode gb_Model_reduce 23 = .ok (.lload 4, 2) := by decide +kernel
theorem gd_Model_reduce_25 : decode gb_Model_reduce 25 = .ok (.lconst 0, 1) := by decide +kernel
theorem gd_Model_reduce_26 : decode gb_Model_reduce 26 = .ok (.lcmp, 1) := by decide +kernel
theorem gd_Model_reduce_27 : decode gb_Model_reduce 27 = .ok (.ifCond .eq 53, 3) := by decide +kernel
theorem gd_Model_reduce_30 : decode gb_Model_reduce 30 = .ok (.iconst 0, 1) := by decide +kernel
theorem gd_Model_reduce_31 : decode gb_Model_reduce 31 = .ok (.istore 6, 2) := by decide +kernel
theorem gd_Model_reduce_33 : decode gb_Model_reduce 33 = .ok (.iload 6, 2) := by decide +kernel
theorem gd_Model_reduce_35 : decode gb_Model_reduce 35 = .ok (.bipush 60, 2) := by decide +kernel
theorem gd_Model_reduce_37 : decode gb_Model_reduce 37 = .ok (.if_icmp .gt 43, 3) := by decide +kernel
theorem gd_Model_reduce_40 : decode gb_Model_reduce 40 = .ok (.aload_n 0, 1) := by decide +kernel
theorem gd_Model_reduce_41 : decode gb_Model_reduce 41 = .ok (.getfield 86, 3) := by decide +kernel
theorem gd_Model_reduce_44 : decode gb_Model_reduce 44 = .ok (.iload 6, 2) := by decide +kernel
theorem gd_Model_reduce_46 : decode gb_Model_reduce 46 = .ok (.aload_n 0, 1) := by decide +kernel
theorem gd_Model_reduce_47 : decode gb_Model_reduce 47 = .ok (.getfield 86, 3) := by decide +kernel
theorem gd_Model_reduce_50 : decode gb_Model_reduce 50 = .ok (.iload 6, 2) := by decide +kernel
theorem gd_Model_reduce_52 : decode gb_Model_reduce 52 = .ok (.laload, 1) := by decide +kernel
theorem gd_Model_reduce_53 : decode gb_Model_reduce 53 = .ok (.lload_n 1, 1) := by decide +kernel
theorem gd_Model_reduce_54 : decode gb_Model_reduce 54 = .ok (.lload 4, 2) := by decide +kernel
theorem gd_Model_reduce_56 : decode gb_Model_reduce 56 = .ok (.lsub, 1) := by decide +kernel
theorem gd_Model_reduce_57 : decode gb_Model_reduce 57 = .ok (.aload_n 0, 1) := by decide +kernel
theorem gd_Model_reduce_58 : decode gb_Model_reduce 58 = .ok (.getfield 79, 3) := by decide +kernel
theorem gd_Model_reduce_61 : decode gb_Model_reduce 61 = .ok (.bipush 61, 2) := by decide +kernel
theorem gd_Model_reduce_63 : decode gb_Model_reduce 63 = .ok (.iload_n 3, 1) := by decide +kernel
theorem gd_Model_reduce_64 : decode gb_Model_reduce 64 = .ok (.imul, 1) := by decide +kernel
theorem gd_Model_reduce_65 : decode gb_Model_reduce 65 = .ok (.iload 6, 2) := by decide +kernel
theorem gd_Model_reduce_67 : decode gb_Model_reduce 67 = .ok (.iadd, 1) := by decide +kernel
theorem gd_Model_reduce_68 : decode gb_Model_reduce 68 = .ok (.laload, 1) := by decide +kernel
theorem gd_Model_reduce_69 : decode gb_Model_reduce 69 = .ok (.lmul, 1) := by decide +kernel
theorem gd_Model_reduce_70 : decode gb_Model_reduce 70 = .ok (.ladd, 1) := by decide +kernel
theorem gd_Model_reduce_71 : decode gb_Model_reduce 71 = .ok (.lload_n 1, 1) := by decide +kernel
theorem gd_Model_reduce_72 : decode gb_Model_reduce 72 = .ok (.lrem, 1) := by decide +kernel
theorem gd_Model_reduce_73 : decode gb_Model_reduce 73 = .ok (.lastore, 1) := by decide +kernel
theorem gd_Model_reduce_74 : decode gb_Model_reduce 74 = .ok (.iinc 6 1, 3) := by decide +kernel
theorem gd_Model_reduce_77 : decode gb_Model_reduce 77 = .ok (.goto (-44), 3) := by decide +kernel
theorem gd_Model_reduce_80 : decode gb_Model_reduce 80 = .ok (.iinc 3 1, 3) := by decide +kernel
theorem gd_Model_reduce_83 : decode gb_Model_reduce 83 = .ok (.goto (-81), 3) := by decide +kernel
theorem gd_Model_reduce_86 : decode gb_Model_reduce 86 = .ok (.iconst 0, 1) := by decide +kernel
theorem gd_Model_reduce_87 : decode gb_Model_reduce 87 = .ok (.istore_n 3, 1) := by decide +kernel
theorem gd_Model_reduce_88 : decode gb_Model_reduce 88 = .ok (.iload_n 3, 1) := by decide +kernel
theorem gd_Model_reduce_89 : decode gb_Model_reduce 89 = .ok (.aload_n 0, 1) := by decide +kernel
theorem gd_Model_reduce_90 : decode gb_Model_reduce 90 = .ok (.getfield 217, 3) := by decide +kernel
theorem gd_Model_reduce_93 : decode gb_Model_reduce 93 = .ok (.if_icmp .ge 20, 3) := by decide +kernel
theorem gd_Model_reduce_96 : decode gb_Model_reduce 96 = .ok (.aload_n 0, 1) := by decide +kernel
theorem gd_Model_reduce_97 : decode gb_Model_reduce 97 = .ok (.getfield 86, 3) := by decide +kernel
theorem gd_Model_reduce_100 : decode gb_Model_reduce 100 = .ok (.iload_n 3, 1) := by decide +kernel
theorem gd_Model_reduce_101 : decode gb_Model_reduce 101 = .ok (.laload, 1) := by decide +kernel
theorem gd_Model_reduce_102 : decode gb_Model_reduce 102 = .ok (.lconst 0, 1) := by decide +kernel
theorem gd_Model_reduce_103 : decode gb_Model_reduce 103 = .ok (.lcmp, 1) := by decide +kernel
theorem gd_Model_reduce_104 : decode gb_Model_reduce 104 = .ok (.ifCond .ne 9, 3) := by decide +kernel
theorem gd_Model_reduce_107 : decode gb_Model_reduce 107 = .ok (.iinc 3 1, 3) := by decide +kernel
theorem gd_Model_reduce_110 : decode gb_Model_reduce 110 = .ok (.goto (-22), 3) := by decide +kernel
theorem gd_Model_reduce_113 : decode gb_Model_reduce 113 = .ok (.iload_n 3, 1) := by decide +kernel
theorem gd_Model_reduce_114 : decode gb_Model_reduce 114 = .ok (.aload_n 0, 1) := by decide +kernel
theorem gd_Model_reduce_115 : decode gb_Model_reduce 115 = .ok (.getfield 217, 3) := by decide +kernel
theorem gd_Model_reduce_118 : decode gb_Model_reduce 118 = .ok (.if_icmp .ge 7, 3) := by decide +kernel
theorem gd_Model_reduce_121 : decode gb_Model_reduce 121 = .ok (.iload_n 3, 1) := by decide +kernel
theorem gd_Model_reduce_122 : decode gb_Model_reduce 122 = .ok (.goto 4, 3) := by decide +kernel
theorem gd_Model_reduce_125 : decode gb_Model_reduce 125 = .ok (.iconst (-1), 1) := by decide +kernel
theorem gd_Model_reduce_126 : decode gb_Model_reduce 126 = .ok (.ireturn, 1) := by decide +kernel
def gf_Model_reduce_b80 (F : Nat) (z : gw_Sh) (rc_2 : gw_St → Nat → Int64 → Int32 → Option (Int32 × gw_St)) (u : gw_St) (t0 : Nat) (y1 : Int64) (x3 : Int32) : Option (Int32 × gw_St) :=
  gf_nm (x3 + 1) fun a1 => rc_2 u t0 y1 a1
def gf_Model_reduce_S33 (F : Nat) (z : gw_Sh) (rc_2 : gw_St → Nat → Int64 → Int32 → Option (Int32 × gw_St)) (rc_33 : gw_St → Nat → Int64 → Int32 → Int64 → Int32 → Option (Int32 × gw_St)) (u : gw_St) (t0 : Nat) (y1 : Int64) (x3 : Int32) (y4 : Int64) (x6 : Int32) : Option (Int32 × gw_St) :=
  if (60 : Int32) < x6 then (gf_Model_reduce_b80 F z rc_2 u t0 y1 x3) else (gf_nn (u.2.2 t0 42) fun q4 => gf_nn (u.2.2 t0 42) fun q6 => if (x6 < 0 ∨ z.2.2 q6 ≤ (x6).toNatClampNeg) then none else gf_nn (u.2.2 t0 39) fun q9 => if ((((61 : Int32) * x3) + x6) < 0 ∨ z.2.2 q9 ≤ ((((61 : Int32) * x3) + x6)).toNatClampNeg) then none else if y1 = 0 then none else if (x6 < 0 ∨ z.2.2 q4 ≤ (x6).toNatClampNeg) then none else gf_nm (gw_wl u q4 (x6).toNatClampNeg (((u.2.1 q6 (x6).toNatClampNeg) + ((y1 - y4) * (u.2.1 q9 ((((61 : Int32) * x3) + x6)).toNatClampNeg))) - ((u.2.1 q6 (x6).toNatClampNeg) + ((y1 - y4) * (u.2.1 q9 ((((61 : Int32) * x3) + x6)).toNatClampNeg))) / y1 * y1)) fun u14 => gf_nm (x6 + 1) fun a16 => rc_33 u14 t0 y1 x3 y4 a16)
def gf_Model_reduce_L33 (F : Nat) (z : gw_Sh) (rc_2 : gw_St → Nat → Int64 → Int32 → Option (Int32 × gw_St)) : Nat → gw_St → Nat → Int64 → Int32 → Int64 → Int32 → Option (Int32 × gw_St)
  | 0 => fun _ _ _ _ _ _ => none
  | n + 1 => fun u t0 y1 x3 y4 x6 => gf_Model_reduce_S33 F z rc_2 (gf_Model_reduce_L33 F z rc_2 n) u t0 y1 x3 y4 x6
def gf_Model_reduce_b126 (F : Nat) (z : gw_Sh)  (u : gw_St) (sx0 : Int32) : Option (Int32 × gw_St) :=
  some (sx0, u)
def gf_Model_reduce_b113 (F : Nat) (z : gw_Sh)  (u : gw_St) (t0 : Nat) (x3 : Int32) : Option (Int32 × gw_St) :=
  if (u.1 t0 18) ≤ x3 then (gf_Model_reduce_b126 F z  u (-1)) else (gf_Model_reduce_b126 F z  u x3)
def gf_Model_reduce_S88 (F : Nat) (z : gw_Sh)  (rc_88 : gw_St → Nat → Int32 → Option (Int32 × gw_St)) (u : gw_St) (t0 : Nat) (x3 : Int32) : Option (Int32 × gw_St) :=
  if (u.1 t0 18) ≤ x3 then (gf_Model_reduce_b113 F z  u t0 x3) else (gf_nn (u.2.2 t0 42) fun q20 => if (x3 < 0 ∨ z.2.2 q20 ≤ (x3).toNatClampNeg) then none else if (lg_cmp (u.2.1 q20 (x3).toNatClampNeg) (0 : Int64)) = 0 then (gf_nm (x3 + 1) fun a24 => rc_88 u t0 a24) else (gf_Model_reduce_b113 F z  u t0 x3))
def gf_Model_reduce_L88 (F : Nat) (z : gw_Sh)  : Nat → gw_St → Nat → Int32 → Option (Int32 × gw_St)
  | 0 => fun _ _ _ => none
  | n + 1 => fun u t0 x3 => gf_Model_reduce_S88 F z  (gf_Model_reduce_L88 F z  n) u t0 x3
def gf_Model_reduce_S2 (F : Nat) (z : gw_Sh)  (rc_2 : gw_St → Nat → Int64 → Int32 → Option (Int32 × gw_St)) (u : gw_St) (t0 : Nat) (y1 : Int64) (x3 : Int32) : Option (Int32 × gw_St) :=
  if (u.1 t0 41) ≤ x3 then (gf_Model_reduce_L88 F z  F u t0 0) else (gf_nn (u.2.2 t0 42) fun q27 => gf_nn (u.2.2 t0 40) fun q29 => if (x3 < 0 ∨ z.2.2 q29 ≤ (x3).toNatClampNeg) then none else if ((u.1 q29 (x3).toNatClampNeg) < 0 ∨ z.2.2 q27 ≤ ((u.1 q29 (x3).toNatClampNeg)).toNatClampNeg) then none else gf_nm (u.2.1 q27 ((u.1 q29 (x3).toNatClampNeg)).toNatClampNeg) fun a33 => if (lg_cmp a33 (0 : Int64)) = 0 then (gf_Model_reduce_b80 F z rc_2 u t0 y1 x3) else (gf_Model_reduce_L33 F z rc_2 F u t0 y1 x3 a33 0))
def gf_Model_reduce_L2 (F : Nat) (z : gw_Sh)  : Nat → gw_St → Nat → Int64 → Int32 → Option (Int32 × gw_St)
  | 0 => fun _ _ _ _ => none
  | n + 1 => fun u t0 y1 x3 => gf_Model_reduce_S2 F z  (gf_Model_reduce_L2 F z  n) u t0 y1 x3
def gf_Model_reduce_b0 (F : Nat) (z : gw_Sh)  (u : gw_St) (t0 : Nat) (y1 : Int64) : Option (Int32 × gw_St) :=
  gf_Model_reduce_L2 F z  F u t0 y1 0
def gf_Model_reduce (F : Nat) (z : gw_Sh) (u : gw_St) (t0 : Nat) (y1 : Int64) : Option (Int32 × gw_St) := gf_Model_reduce_b0 F z  u t0 y1
set_option maxHeartbeats 4000000 in
set_option maxRecDepth 20000 in
theorem gx_Model_reduce_b80 {p : Program} {l : Launch} {e : Env} {s : State} {m : MethodId} {args : Array Value} {below : List Frame} {meth : Method} {c : Code} {D : va_G} {cA : Nat → ClassId} {hs : Nat → Nat} {z : gw_Sh} (F : Nat) {r0 : (Int32 × gw_St)} (C : gw_Cx p s m args c gb_Model_reduce 7 R_Model D cA) (hr : meth.sig.returnType = (some .int)) (hk : meth.locks = false) {rc_2 : gw_St → Nat → Int64 → Int32 → Option (Int32 × gw_St)} (k_2 : ∀ (u : gw_St) (t0 : Nat) (y1 : Int64) (x3 : Int32) (H : Heap) (locs : List Loc) (ls : Array Slot), gw_ok z t0 9 → gw_Wx D cA hs z s u H locs → lv_has ls 7 [(0, .ref (hs t0)), (1, .long y1), (3, .int x3)] → rc_2 u t0 y1 x3 = some r0 → gw_Gi p l e gr_Model_reduce s m args below meth c D cA hs z r0 H locs ls 2 []) (u : gw_St) (t0 : Nat) (y1 : Int64) (x3 : Int32) (o_t0 : gw_ok z t0 9) {H : Heap} {locs : List Loc} {ls : Array Slot} (hW : gw_Wx D cA hs z s u H locs) (hl : lv_has ls 7 [(0, .ref (hs t0)), (1, .long y1), (3, .int x3)]) (h : gf_Model_reduce_b80 F z rc_2  u t0 y1 x3 = some r0) : gw_Gi p l e gr_Model_reduce s m args below meth c D cA hs z r0 H locs ls 80 [] := by
  obtain ⟨hx, hb, hml, hown, hts, hK⟩ := id C
  unfold gf_Model_reduce_b80 at h
  obtain ⟨a1, e2⟩ : ∃ y : Int32, y = x3 + 1 := ⟨_, rfl⟩
  have h := gf_nm_ok e2 h
  refine lv_iinc (v := a1) (lv' := [(3, .int a1), (0, .ref (hs t0)), (1, .long y1)]) hx hb gd_Model_reduce_80 hl (k := 2) rfl (by rw [e2]; rfl) (by decide) rfl (fun ls hl => ?_)
  refine lv_goto (tgt := 2) hx hb gd_Model_reduce_83 (by decide) ?_
  exact k_2 u t0 y1 a1 _ _ _ o_t0 hW (lv_sub hl [1, 2, 0] rfl) h

set_option maxHeartbeats 4000000 in
set_option maxRecDepth 20000 in
theorem gx_Model_reduce_S33 {p : Program} {l : Launch} {e : Env} {s : State} {m : MethodId} {args : Array Value} {below : List Frame} {meth : Method} {c : Code} {D : va_G} {cA : Nat → ClassId} {hs : Nat → Nat} {z : gw_Sh} (F : Nat) {r0 : (Int32 × gw_St)} (C : gw_Cx p s m args c gb_Model_reduce 7 R_Model D cA) (hr : meth.sig.returnType = (some .int)) (hk : meth.locks = false) {rc_2 : gw_St → Nat → Int64 → Int32 → Option (Int32 × gw_St)} (k_2 : ∀ (u : gw_St) (t0 : Nat) (y1 : Int64) (x3 : Int32) (H : Heap) (locs : List Loc) (ls : Array Slot), gw_ok z t0 9 → gw_Wx D cA hs z s u H locs → lv_has ls 7 [(0, .ref (hs t0)), (1, .long y1), (3, .int x3)] → rc_2 u t0 y1 x3 = some r0 → gw_Gi p l e gr_Model_reduce s m args below meth c D cA hs z r0 H locs ls 2 []) {rc_33 : gw_St → Nat → Int64 → Int32 → Int64 → Int32 → Option (Int32 × gw_St)} (k_33 : ∀ (u : gw_St) (t0 : Nat) (y1 : Int64) (x3 : Int32) (y4 : Int64) (x6 : Int32) (H : Heap) (locs : List Loc) (ls : Array Slot), gw_ok z t0 9 → gw_Wx D cA hs z s u H locs → lv_has ls 7 [(0, .ref (hs t0)), (1, .long y1), (3, .int x3), (4, .long y4), (6, .int x6)] → rc_33 u t0 y1 x3 y4 x6 = some r0 → gw_Gi p l e gr_Model_reduce s m args below meth c D cA hs z r0 H locs ls 33 []) (u : gw_St) (t0 : Nat) (y1 : Int64) (x3 : Int32) (y4 : Int64) (x6 : Int32) (o_t0 : gw_ok z t0 9) {H : Heap} {locs : List Loc} {ls : Array Slot} (hW : gw_Wx D cA hs z s u H locs) (hl : lv_has ls 7 [(0, .ref (hs t0)), (1, .long y1), (3, .int x3), (4, .long y4), (6, .int x6)]) (h : gf_Model_reduce_S33 F z rc_2 rc_33 u t0 y1 x3 y4 x6 = some r0) : gw_Gi p l e gr_Model_reduce s m args below meth c D cA hs z r0 H locs ls 33 [] := by
  obtain ⟨hx, hb, hml, hown, hts, hK⟩ := id C
  unfold gf_Model_reduce_S33 at h
  refine lv_iload hx hb gd_Model_reduce_33 (lv_at hl 4 rfl) ?_
  refine lv_bipush (v := 60) hx hb gd_Model_reduce_35 (by decide) ?_
  refine lv_icmp_gt (tgt := 80) hx hb gd_Model_reduce_37 (by decide) (fun c3 => ?_) (fun c3 => ?_)
  · have h := gf_t c3 h
    exact gx_Model_reduce_b80 F C hr hk k_2 u t0 y1 x3 o_t0 hW (lv_sub hl [0, 1, 2] rfl) h
  · have h := gf_f c3 h
    refine lv_aload_n hx hb gd_Model_reduce_40 rfl (lv_at hl 0 rfl) ?_
    obtain ⟨q4, e5, h⟩ := gf_nn_ok h
    refine gw_getr (k := 42) (ty := 11) (ref := R_Model) C hW o_t0 (by decide) rfl gi_Model rfl (by decide) rfl rfl gk_487 gd_Model_reduce_41 e5 ?_
    have o_q4 := hW.ref (d := 11) o_t0 e5 rfl
    refine lv_iload hx hb gd_Model_reduce_44 (lv_at hl 4 rfl) ?_
    refine lv_aload_n hx hb gd_Model_reduce_46 rfl (lv_at hl 0 rfl) ?_
    obtain ⟨q6, e7, h⟩ := gf_nn_ok h
    refine gw_getr (k := 42) (ty := 11) (ref := R_Model) C hW o_t0 (by decide) rfl gi_Model rfl (by decide) rfl rfl gk_487 gd_Model_reduce_47 e7 ?_
    have o_q6 := hW.ref (d := 11) o_t0 e7 rfl
    refine lv_iload hx hb gd_Model_reduce_50 (lv_at hl 4 rfl) ?_
    obtain ⟨g8, h⟩ := gf_if_ok h
    refine gw_lald C hW o_q6 g8 gd_Model_reduce_52 ?_
    refine lv_lload_n hx hb gd_Model_reduce_53 rfl (lv_at hl 1 rfl) ?_
    refine lv_lload hx hb gd_Model_reduce_54 (lv_at hl 3 rfl) ?_
    refine lv_lsub hx hb gd_Model_reduce_56 ?_
    refine lv_aload_n hx hb gd_Model_reduce_57 rfl (lv_at hl 0 rfl) ?_
    obtain ⟨q9, e10, h⟩ := gf_nn_ok h
    refine gw_getr (k := 39) (ty := 11) (ref := R_Model) C hW o_t0 (by decide) rfl gi_Model rfl (by decide) rfl rfl gk_498 gd_Model_reduce_58 e10 ?_
    have o_q9 := hW.ref (d := 11) o_t0 e10 rfl
    refine lv_bipush (v := 61) hx hb gd_Model_reduce_61 (by decide) ?_
    refine lv_iload_n hx hb gd_Model_reduce_63 rfl (lv_at hl 2 rfl) ?_
    refine lv_imul hx hb gd_Model_reduce_64 ?_
    refine lv_iload hx hb gd_Model_reduce_65 (lv_at hl 4 rfl) ?_
    refine lv_iadd hx hb gd_Model_reduce_67 ?_
    obtain ⟨g11, h⟩ := gf_if_ok h
    refine gw_lald C hW o_q9 g11 gd_Model_reduce_68 ?_
    refine lv_lmul hx hb gd_Model_reduce_69 ?_
    refine lv_ladd hx hb gd_Model_reduce_70 ?_
    refine lv_lload_n hx hb gd_Model_reduce_71 rfl (lv_at hl 1 rfl) ?_
    obtain ⟨g12, h⟩ := gf_if_ok h
    refine lv_lrem hx hb gd_Model_reduce_72 g12 ?_
    obtain ⟨g13, h⟩ := gf_if_ok h
    refine gw_last C hW o_q4 g13 gd_Model_reduce_73 (fun u14 H locs e15 hW => ?_)
    have h := gf_nm_ok e15 h
    obtain ⟨a16, e17⟩ : ∃ y : Int32, y = x6 + 1 := ⟨_, rfl⟩
    have h := gf_nm_ok e17 h
    refine lv_iinc (v := a16) (lv' := [(6, .int a16), (0, .ref (hs t0)), (1, .long y1), (3, .int x3), (4, .long y4)]) hx hb gd_Model_reduce_74 hl (k := 4) rfl (by rw [e17]; rfl) (by decide) rfl (fun ls hl => ?_)
    refine lv_goto (tgt := 33) hx hb gd_Model_reduce_77 (by decide) ?_
    exact k_33 u14 t0 y1 x3 y4 a16 _ _ _ o_t0 hW (lv_sub hl [1, 2, 3, 4, 0] rfl) h
set_option maxHeartbeats 4000000 in
set_option maxRecDepth 20000 in
theorem gx_Model_reduce_L33 {p : Program} {l : Launch} {e : Env} {s : State} {m : MethodId} {args : Array Value} {below : List Frame} {meth : Method} {c : Code} {D : va_G} {cA : Nat → ClassId} {hs : Nat → Nat} {z : gw_Sh} (F : Nat) {r0 : (Int32 × gw_St)} (C : gw_Cx p s m args c gb_Model_reduce 7 R_Model D cA) (hr : meth.sig.returnType = (some .int)) (hk : meth.locks = false) {rc_2 : gw_St → Nat → Int64 → Int32 → Option (Int32 × gw_St)} (k_2 : ∀ (u : gw_St) (t0 : Nat) (y1 : Int64) (x3 : Int32) (H : Heap) (locs : List Loc) (ls : Array Slot), gw_ok z t0 9 → gw_Wx D cA hs z s u H locs → lv_has ls 7 [(0, .ref (hs t0)), (1, .long y1), (3, .int x3)] → rc_2 u t0 y1 x3 = some r0 → gw_Gi p l e gr_Model_reduce s m args below meth c D cA hs z r0 H locs ls 2 []) : ∀ (n : Nat), ∀ (u : gw_St) (t0 : Nat) (y1 : Int64) (x3 : Int32) (y4 : Int64) (x6 : Int32) (H : Heap) (locs : List Loc) (ls : Array Slot), gw_ok z t0 9 → gw_Wx D cA hs z s u H locs → lv_has ls 7 [(0, .ref (hs t0)), (1, .long y1), (3, .int x3), (4, .long y4), (6, .int x6)] → gf_Model_reduce_L33 F z rc_2 n u t0 y1 x3 y4 x6 = some r0 → gw_Gi p l e gr_Model_reduce s m args below meth c D cA hs z r0 H locs ls 33 [] := by
  intro n
  induction n with
  | zero =>
    intro u t0 y1 x3 y4 x6 H locs ls o_t0 hW hl h
    cases h
  | succ n ih =>
    intro u t0 y1 x3 y4 x6 H locs ls o_t0 hW hl h
    exact gx_Model_reduce_S33 F C hr hk k_2 ih u t0 y1 x3 y4 x6 o_t0 hW hl h

set_option maxHeartbeats 4000000 in
set_option maxRecDepth 20000 in
theorem gx_Model_reduce_b126 {p : Program} {l : Launch} {e : Env} {s : State} {m : MethodId} {args : Array Value} {below : List Frame} {meth : Method} {c : Code} {D : va_G} {cA : Nat → ClassId} {hs : Nat → Nat} {z : gw_Sh} (F : Nat) {r0 : (Int32 × gw_St)} (C : gw_Cx p s m args c gb_Model_reduce 7 R_Model D cA) (hr : meth.sig.returnType = (some .int)) (hk : meth.locks = false) (u : gw_St) (sx0 : Int32)  {H : Heap} {locs : List Loc} {ls : Array Slot} (hW : gw_Wx D cA hs z s u H locs) (hl : lv_has ls 7 []) (h : gf_Model_reduce_b126 F z   u sx0 = some r0) : gw_Gi p l e gr_Model_reduce s m args below meth c D cA hs z r0 H locs ls 126 [.int sx0] := by
  obtain ⟨hx, hb, hml, hown, hts, hK⟩ := id C
  unfold gf_Model_reduce_b126 at h
  obtain rfl := Option.some.inj h
  exact gw_iret C hW hr hk gd_Model_reduce_126

set_option maxHeartbeats 4000000 in
set_option maxRecDepth 20000 in
theorem gx_Model_reduce_b113 {p : Program} {l : Launch} {e : Env} {s : State} {m : MethodId} {args : Array Value} {below : List Frame} {meth : Method} {c : Code} {D : va_G} {cA : Nat → ClassId} {hs : Nat → Nat} {z : gw_Sh} (F : Nat) {r0 : (Int32 × gw_St)} (C : gw_Cx p s m args c gb_Model_reduce 7 R_Model D cA) (hr : meth.sig.returnType = (some .int)) (hk : meth.locks = false) (u : gw_St) (t0 : Nat) (x3 : Int32) (o_t0 : gw_ok z t0 9) {H : Heap} {locs : List Loc} {ls : Array Slot} (hW : gw_Wx D cA hs z s u H locs) (hl : lv_has ls 7 [(0, .ref (hs t0)), (3, .int x3)]) (h : gf_Model_reduce_b113 F z   u t0 x3 = some r0) : gw_Gi p l e gr_Model_reduce s m args below meth c D cA hs z r0 H locs ls 113 [] := by
  obtain ⟨hx, hb, hml, hown, hts, hK⟩ := id C
  unfold gf_Model_reduce_b113 at h
  refine lv_iload_n hx hb gd_Model_reduce_113 rfl (lv_at hl 1 rfl) ?_
  refine lv_aload_n hx hb gd_Model_reduce_114 rfl (lv_at hl 0 rfl) ?_
  refine gw_geti (k := 18) (ref := R_Model) C hW o_t0 (by decide) rfl gi_Model rfl (by decide) rfl rfl gk_461 gd_Model_reduce_115 ?_
  refine lv_icmp_ge (tgt := 125) hx hb gd_Model_reduce_118 (by decide) (fun c18 => ?_) (fun c18 => ?_)
  · have h := gf_t c18 h
    refine lv_iconst (v := (-1)) hx hb gd_Model_reduce_125 (by decide) ?_
    exact gx_Model_reduce_b126 F C hr hk  u (-1)  hW (lv_sub hl [] rfl) h
  · have h := gf_f c18 h
    refine lv_iload_n hx hb gd_Model_reduce_121 rfl (lv_at hl 1 rfl) ?_
    refine lv_goto (tgt := 126) hx hb gd_Model_reduce_122 (by decide) ?_
    exact gx_Model_reduce_b126 F C hr hk  u x3  hW (lv_sub hl [] rfl) h

set_option maxHeartbeats 4000000 in
set_option maxRecDepth 20000 in
theorem gx_Model_reduce_S88 {p : Program} {l : Launch} {e : Env} {s : State} {m : MethodId} {args : Array Value} {below : List Frame} {meth : Method} {c : Code} {D : va_G} {cA : Nat → ClassId} {hs : Nat → Nat} {z : gw_Sh} (F : Nat) {r0 : (Int32 × gw_St)} (C : gw_Cx p s m args c gb_Model_reduce 7 R_Model D cA) (hr : meth.sig.returnType = (some .int)) (hk : meth.locks = false) {rc_88 : gw_St → Nat → Int32 → Option (Int32 × gw_St)} (k_88 : ∀ (u : gw_St) (t0 : Nat) (x3 : Int32) (H : Heap) (locs : List Loc) (ls : Array Slot), gw_ok z t0 9 → gw_Wx D cA hs z s u H locs → lv_has ls 7 [(0, .ref (hs t0)), (3, .int x3)] → rc_88 u t0 x3 = some r0 → gw_Gi p l e gr_Model_reduce s m args below meth c D cA hs z r0 H locs ls 88 []) (u : gw_St) (t0 : Nat) (x3 : Int32) (o_t0 : gw_ok z t0 9) {H : Heap} {locs : List Loc} {ls : Array Slot} (hW : gw_Wx D cA hs z s u H locs) (hl : lv_has ls 7 [(0, .ref (hs t0)), (3, .int x3)]) (h : gf_Model_reduce_S88 F z  rc_88 u t0 x3 = some r0) : gw_Gi p l e gr_Model_reduce s m args below meth c D cA hs z r0 H locs ls 88 [] := by
  obtain ⟨hx, hb, hml, hown, hts, hK⟩ := id C
  unfold gf_Model_reduce_S88 at h
  refine lv_iload_n hx hb gd_Model_reduce_88 rfl (lv_at hl 1 rfl) ?_
  refine lv_aload_n hx hb gd_Model_reduce_89 rfl (lv_at hl 0 rfl) ?_
  refine gw_geti (k := 18) (ref := R_Model) C hW o_t0 (by decide) rfl gi_Model rfl (by decide) rfl rfl gk_461 gd_Model_reduce_90 ?_
  refine lv_icmp_ge (tgt := 113) hx hb gd_Model_reduce_93 (by decide) (fun c19 => ?_) (fun c19 => ?_)
  · have h := gf_t c19 h
    exact gx_Model_reduce_b113 F C hr hk  u t0 x3 o_t0 hW (lv_sub hl [0, 1] rfl) h
  · have h := gf_f c19 h
    refine lv_aload_n hx hb gd_Model_reduce_96 rfl (lv_at hl 0 rfl) ?_
    obtain ⟨q20, e21, h⟩ := gf_nn_ok h
    refine gw_getr (k := 42) (ty := 11) (ref := R_Model) C hW o_t0 (by decide) rfl gi_Model rfl (by decide) rfl rfl gk_487 gd_Model_reduce_97 e21 ?_
    have o_q20 := hW.ref (d := 11) o_t0 e21 rfl
    refine lv_iload_n hx hb gd_Model_reduce_100 rfl (lv_at hl 1 rfl) ?_
    obtain ⟨g22, h⟩ := gf_if_ok h
    refine gw_lald C hW o_q20 g22 gd_Model_reduce_101 ?_
    refine lv_lconst (v := 0) hx hb gd_Model_reduce_102 (by decide) ?_
    refine W.lcmp hx hb gd_Model_reduce_103 ?_
    refine lv_if_ne (tgt := 113) hx hb gd_Model_reduce_104 (by decide) (fun c23 => ?_) (fun c23 => ?_)
    · have h := gf_f c23 h
      exact gx_Model_reduce_b113 F C hr hk  u t0 x3 o_t0 hW (lv_sub hl [0, 1] rfl) h
    · have h := gf_t c23 h
      obtain ⟨a24, e25⟩ : ∃ y : Int32, y = x3 + 1 := ⟨_, rfl⟩
      have h := gf_nm_ok e25 h
      refine lv_iinc (v := a24) (lv' := [(3, .int a24), (0, .ref (hs t0))]) hx hb gd_Model_reduce_107 hl (k := 1) rfl (by rw [e25]; rfl) (by decide) rfl (fun ls hl => ?_)
      refine lv_goto (tgt := 88) hx hb gd_Model_reduce_110 (by decide) ?_
      exact k_88 u t0 a24 _ _ _ o_t0 hW (lv_sub hl [1, 0] rfl) h
set_option maxHeartbeats 4000000 in
set_option maxRecDepth 20000 in
theorem gx_Model_reduce_L88 {p : Program} {l : Launch} {e : Env} {s : State} {m : MethodId} {args : Array Value} {below : List Frame} {meth : Method} {c : Code} {D : va_G} {cA : Nat → ClassId} {hs : Nat → Nat} {z : gw_Sh} (F : Nat) {r0 : (Int32 × gw_St)} (C : gw_Cx p s m args c gb_Model_reduce 7 R_Model D cA) (hr : meth.sig.returnType = (some .int)) (hk : meth.locks = false) : ∀ (n : Nat), ∀ (u : gw_St) (t0 : Nat) (x3 : Int32) (H : Heap) (locs : List Loc) (ls : Array Slot), gw_ok z t0 9 → gw_Wx D cA hs z s u H locs → lv_has ls 7 [(0, .ref (hs t0)), (3, .int x3)] → gf_Model_reduce_L88 F z  n u t0 x3 = some r0 → gw_Gi p l e gr_Model_reduce s m args below meth c D cA hs z r0 H locs ls 88 [] := by
  intro n
  induction n with
  | zero =>
    intro u t0 x3 H locs ls o_t0 hW hl h
    cases h
  | succ n ih =>
    intro u t0 x3 H locs ls o_t0 hW hl h
    exact gx_Model_reduce_S88 F C hr hk  ih u t0 x3 o_t0 hW hl h

set_option maxHeartbeats 4000000 in
set_option maxRecDepth 20000 in
theorem gx_Model_reduce_S2 {p : Program} {l : Launch} {e : Env} {s : State} {m : MethodId} {args : Array Value} {below : List Frame} {meth : Method} {c : Code} {D : va_G} {cA : Nat → ClassId} {hs : Nat → Nat} {z : gw_Sh} (F : Nat) {r0 : (Int32 × gw_St)} (C : gw_Cx p s m args c gb_Model_reduce 7 R_Model D cA) (hr : meth.sig.returnType = (some .int)) (hk : meth.locks = false) {rc_2 : gw_St → Nat → Int64 → Int32 → Option (Int32 × gw_St)} (k_2 : ∀ (u : gw_St) (t0 : Nat) (y1 : Int64) (x3 : Int32) (H : Heap) (locs : List Loc) (ls : Array Slot), gw_ok z t0 9 → gw_Wx D cA hs z s u H locs → lv_has ls 7 [(0, .ref (hs t0)), (1, .long y1), (3, .int x3)] → rc_2 u t0 y1 x3 = some r0 → gw_Gi p l e gr_Model_reduce s m args below meth c D cA hs z r0 H locs ls 2 []) (u : gw_St) (t0 : Nat) (y1 : Int64) (x3 : Int32) (o_t0 : gw_ok z t0 9) {H : Heap} {locs : List Loc} {ls : Array Slot} (hW : gw_Wx D cA hs z s u H locs) (hl : lv_has ls 7 [(0, .ref (hs t0)), (1, .long y1), (3, .int x3)]) (h : gf_Model_reduce_S2 F z  rc_2 u t0 y1 x3 = some r0) : gw_Gi p l e gr_Model_reduce s m args below meth c D cA hs z r0 H locs ls 2 [] := by
  obtain ⟨hx, hb, hml, hown, hts, hK⟩ := id C
  unfold gf_Model_reduce_S2 at h
  refine lv_iload_n hx hb gd_Model_reduce_2 rfl (lv_at hl 2 rfl) ?_
  refine lv_aload_n hx hb gd_Model_reduce_3 rfl (lv_at hl 0 rfl) ?_
  refine gw_geti (k := 41) (ref := R_Model) C hW o_t0 (by decide) rfl gi_Model rfl (by decide) rfl rfl gk_499 gd_Model_reduce_4 ?_
  refine lv_icmp_ge (tgt := 86) hx hb gd_Model_reduce_7 (by decide) (fun c26 => ?_) (fun c26 => ?_)
  · have h := gf_t c26 h
    refine lv_iconst (v := 0) hx hb gd_Model_reduce_86 (by decide) ?_
    refine lv_istore_n (lv' := [(3, .int 0), (0, .ref (hs t0)), (1, .long y1)]) hx hb gd_Model_reduce_87 rfl hl (by decide) rfl (fun ls hl => ?_)
    exact gx_Model_reduce_L88 F C hr hk  F u t0 0 _ _ _ o_t0 hW (lv_sub hl [1, 0] rfl) h
  · have h := gf_f c26 h
    refine lv_aload_n hx hb gd_Model_reduce_10 rfl (lv_at hl 0 rfl) ?_
    obtain ⟨q27, e28, h⟩ := gf_nn_ok h
    refine gw_getr (k := 42) (ty := 11) (ref := R_Model) C hW o_t0 (by decide) rfl gi_Model rfl (by decide) rfl rfl gk_487 gd_Model_reduce_11 e28 ?_
    have o_q27 := hW.ref (d := 11) o_t0 e28 rfl
    refine lv_aload_n hx hb gd_Model_reduce_14 rfl (lv_at hl 0 rfl) ?_
    obtain ⟨q29, e30, h⟩ := gf_nn_ok h
    refine gw_getr (k := 40) (ty := 10) (ref := R_Model) C hW o_t0 (by decide) rfl gi_Model rfl (by decide) rfl rfl gk_500 gd_Model_reduce_15 e30 ?_
    have o_q29 := hW.ref (d := 10) o_t0 e30 rfl
    refine lv_iload_n hx hb gd_Model_reduce_18 rfl (lv_at hl 2 rfl) ?_
    obtain ⟨g31, h⟩ := gf_if_ok h
    refine gw_iald C hW o_q29 g31 gd_Model_reduce_19 ?_
    obtain ⟨g32, h⟩ := gf_if_ok h
    refine gw_lald C hW o_q27 g32 gd_Model_reduce_20 ?_
    refine lv_topl (fun a33 e34 => ?_)
    have h := gf_nm_ok e34 h
    refine lv_lstore (lv' := [(4, .long a33), (0, .ref (hs t0)), (1, .long y1), (3, .int x3)]) hx hb gd_Model_reduce_21 hl (by decide) rfl (fun ls hl => ?_)
    refine lv_lload hx hb gd_Model_reduce_23 (lv_at hl 0 rfl) ?_
    refine lv_lconst (v := 0) hx hb gd_Model_reduce_25 (by decide) ?_
    refine W.lcmp hx hb gd_Model_reduce_26 ?_
    refine lv_if_eq (tgt := 80) hx hb gd_Model_reduce_27 (by decide) (fun c35 => ?_) (fun c35 => ?_)
    · have h := gf_t c35 h
      exact gx_Model_reduce_b80 F C hr hk k_2 u t0 y1 x3 o_t0 hW (lv_sub hl [1, 2, 3] rfl) h
    · have h := gf_f c35 h
      refine lv_iconst (v := 0) hx hb gd_Model_reduce_30 (by decide) ?_
      refine lv_istore (lv' := [(6, .int 0), (4, .long a33), (0, .ref (hs t0)), (1, .long y1), (3, .int x3)]) hx hb gd_Model_reduce_31 hl (by decide) rfl (fun ls hl => ?_)
      exact gx_Model_reduce_L33 F C hr hk k_2 F u t0 y1 x3 a33 0 _ _ _ o_t0 hW (lv_sub hl [2, 3, 4, 1, 0] rfl) h
set_option maxHeartbeats 4000000 in
set_option maxRecDepth 20000 in
theorem gx_Model_reduce_L2 {p : Program} {l : Launch} {e : Env} {s : State} {m : MethodId} {args : Array Value} {below : List Frame} {meth : Method} {c : Code} {D : va_G} {cA : Nat → ClassId} {hs : Nat → Nat} {z : gw_Sh} (F : Nat) {r0 : (Int32 × gw_St)} (C : gw_Cx p s m args c gb_Model_reduce 7 R_Model D cA) (hr : meth.sig.returnType = (some .int)) (hk : meth.locks = false) : ∀ (n : Nat), ∀ (u : gw_St) (t0 : Nat) (y1 : Int64) (x3 : Int32) (H : Heap) (locs : List Loc) (ls : Array Slot), gw_ok z t0 9 → gw_Wx D cA hs z s u H locs → lv_has ls 7 [(0, .ref (hs t0)), (1, .long y1), (3, .int x3)] → gf_Model_reduce_L2 F z  n u t0 y1 x3 = some r0 → gw_Gi p l e gr_Model_reduce s m args below meth c D cA hs z r0 H locs ls 2 [] := by
  intro n
  induction n with
  | zero =>
    intro u t0 y1 x3 H locs ls o_t0 hW hl h
    cases h
  | succ n ih =>
    intro u t0 y1 x3 H locs ls o_t0 hW hl h
    exact gx_Model_reduce_S2 F C hr hk  ih u t0 y1 x3 o_t0 hW hl h

set_option maxHeartbeats 4000000 in
set_option maxRecDepth 20000 in
theorem gx_Model_reduce_b0 {p : Program} {l : Launch} {e : Env} {s : State} {m : MethodId} {args : Array Value} {below : List Frame} {meth : Method} {c : Code} {D : va_G} {cA : Nat → ClassId} {hs : Nat → Nat} {z : gw_Sh} (F : Nat) {r0 : (Int32 × gw_St)} (C : gw_Cx p s m args c gb_Model_reduce 7 R_Model D cA) (hr : meth.sig.returnType = (some .int)) (hk : meth.locks = false) (u : gw_St) (t0 : Nat) (y1 : Int64) (o_t0 : gw_ok z t0 9) {H : Heap} {locs : List Loc} {ls : Array Slot} (hW : gw_Wx D cA hs z s u H locs) (hl : lv_has ls 7 [(0, .ref (hs t0)), (1, .long y1)]) (h : gf_Model_reduce_b0 F z   u t0 y1 = some r0) : gw_Gi p l e gr_Model_reduce s m args below meth c D cA hs z r0 H locs ls 0 [] := by
  obtain ⟨hx, hb, hml, hown, hts, hK⟩ := id C
  unfold gf_Model_reduce_b0 at h
  refine lv_iconst (v := 0) hx hb gd_Model_reduce_0 (by decide) ?_
  refine lv_istore_n (lv' := [(3, .int 0), (0, .ref (hs t0)), (1, .long y1)]) hx hb gd_Model_reduce_1 rfl hl (by decide) rfl (fun ls hl => ?_)
  exact gx_Model_reduce_L2 F C hr hk  F u t0 y1 0 _ _ _ o_t0 hW (lv_sub hl [1, 2, 0] rfl) h

set_option maxRecDepth 20000 in
theorem gc_Model_reduce (l : Launch) {D : va_G} {cA : Nat → ClassId} {hs : Nat → Nat} {z : gw_Sh} (F : Nat) {u : gw_St} {r0 : (Int32 × gw_St)} {t0 : Nat} {y1 : Int64} (o_t0 : gw_ok z t0 9) (h : gf_Model_reduce F z u t0 y1 = some r0) (sz : Nat) : gw_Mi l gy_Model_reduce gb_Model_reduce 7 (some .int) gr_Model_reduce [.ref (hs t0), .long y1] D cA hs z u sz r0 := by
  refine gw_enter (by decide) (Nat.le_of_ble_eq_true rfl) ?_
  intro p e s m below meth c ls hsz C hW hr hk _ hl
  subst hsz
  exact gx_Model_reduce_b0 F C hr hk u t0 y1 o_t0 hW (lv_sub hl [0, 1] rfl) h
-- GearDeskModel.keep(IJ)V
theorem gk_502 : Cond.methodLink R_Model 242 gy_Model_power ∈ gt_T := gt_m7 (List.mem_of_getElem? (i := 114) rfl) rfl
theorem gk_503 : Cond.static gy_Model_power ∈ gt_T := gt_m7 (List.mem_of_getElem? (i := 115) rfl) rfl
def gy_Model_keep : MethodName := ⟨R_Model, "keep", "(IJ)V"⟩
abbrev gb_Model_keep : ByteArray := prog_11_method_39_code
theorem gk_504 : Cond.code gy_Model_keep gb_Model_keep 10 none ∈ gt_T := gt_m7 (List.mem_of_getElem? (i := 113) rfl) rfl
def gr_Model_keep : Room := gw_rm 2 95
theorem gm_Model_keep : gw_Mth gy_Model_keep gb_Model_keep 10 none 2 := ⟨gk_504, gk_377, ⟨by decide +kernel, by decide +kernel⟩, by decide +kernel⟩
theorem gd_Model_keep_0 : decode gb_Model_keep 0 = .ok (.aload_n 0, 1) := by decide +kernel
theorem gd_Model_keep_1 : decode gb_Model_keep 1 = .ok (.getfield 86, 3) := by decide +kernel
theorem gd_Model_keep_4 : decode gb_Model_keep 4 = .ok (.iload_n 1, 1) := by decide +kernel
theorem gd_Model_keep_5 : decode gb_Model_keep 5 = .ok (.laload, 1) := by decide +kernel
theorem gd_Model_keep_6 : decode gb_Model_keep 6 = .ok (.lload_n 2, 1) := by decide +kernel
theorem gd_Model_keep_7 : decode gb_Model_keep 7 = .ok (.ldc2_w 117, 3) := by decide +kernel
theorem gd_Model_keep_10 : decode gb_Model_keep 10 = .ok (.lsub, 1) := by decide +kernel
theorem gd_Model_keep_11 : decode gb_Model_keep 11 = .ok (.lload_n 2, 1) := by decide +kernel
theorem gd_Model_keep_12 : decode gb_Model_keep 12 = .ok (.invokestatic 242, 3) := by decide +kernel
theorem gd_Model_keep_15 : decode gb_Model_keep 15 = .ok (.lstore 4, 2) := by decide +kernel
theorem gd_Model_keep_17 : decode gb_Model_keep 17 = .ok (.iconst 0, 1) := by decide +kernel
theorem gd_Model_keep_18 : decode gb_Model_keep 18 = .ok (.istore 6, 2) := by decide +kernel
theorem gd_Model_keep_20 : decode gb_Model_keep 20 = .ok (.iload 6, 2) := by decide +kernel
theorem gd_Model_keep_22 : decode gb_Model_keep 22 = .ok (.bipush 60, 2) := by decide +kernel
theorem gd_Model_keep_24 : decode gb_Model_keep 24 = .ok (.if_icmp .gt 28, 3) := by decide +kernel
theorem gd_Model_keep_27 : decode gb_Model_keep 27 = .ok (.aload_n 0, 1) := by decide +kernel
theorem gd_Model_keep_28 : decode gb_Model_keep 28 = .ok (.getfield 86, 3) := by decide +kernel
theorem gd_Model_keep_31 : decode gb_Model_keep 31 = .ok (.iload 6, 2) := by decide +kernel
theorem gd_Model_keep_33 : decode gb_Model_keep 33 = .ok (.aload_n 0, 1) := by decide +kernel
theorem gd_Model_keep_34 : decode gb_Model_keep 34 = .ok (.getfield 86, 3) := by decide +kernel
theorem gd_Model_keep_37 : decode gb_Model_keep 37 = .ok (.iload 6, 2) := by decide +kernel
theorem gd_Model_keep_39 : decode gb_Model_keep 39 = .ok (.laload, 1) := by decide +kernel
theorem gd_Model_keep_40 : decode gb_Model_keep 40 = .ok (.lload 4, 2) := by decide +kernel
theorem gd_Model_keep_42 : decode gb_Model_keep 42 = .ok (.lmul, 1) := by decide +kernel
theorem gd_Model_keep_43 : decode gb_Model_keep 43 = .ok (.lload_n 2, 1) := by decide +kernel
theorem gd_Model_keep_44 : decode gb_Model_keep 44 = .ok (.lrem, 1) := by decide +kernel
theorem gd_Model_keep_45 : decode gb_Model_keep 45 = .ok (.lastore, 1) := by decide +kernel
theorem gd_Model_keep_46 : decode gb_Model_keep 46 = .ok (.iinc 6 1, 3) := by decide +kernel
theorem gd_Model_keep_49 : decode gb_Model_keep 49 = .ok (.goto (-29), 3) := by decide +kernel
theorem gd_Model_keep_52 : decode gb_Model_keep 52 = .ok (.iconst 0, 1) := by decide +kernel
theorem gd_Model_keep_53 : decode gb_Model_keep 53 = .ok (.istore 6, 2) := by decide +kernel
theorem gd_Model_keep_55 : decode gb_Model_keep 55 = .ok (.iload 6, 2) := by decide +kernel
theorem gd_Model_keep_57 : decode gb_Model_keep 57 = .ok (.aload_n 0, 1) := by decide +kernel
theorem gd_Model_keep_58 : decode gb_Model_keep 58 = .ok (.getfield 239, 3) := by decide +kernel
theorem gd_Model_keep_61 : decode gb_Model_keep 61 = .ok (.if_icmp .ge 87, 3) := by decide +kernel
theorem gd_Model_keep_64 : decode gb_Model_keep 64 = .ok (.aload_n 0, 1) := by decide +kernel
theorem gd_Model_keep_65 : decode gb_Model_keep 65 = .ok (.getfield 79, 3) := by decide +kernel
theorem gd_Model_keep_68 : decode gb_Model_keep 68 = .ok (.bipush 61, 2) := by decide +kernel
theorem gd_Model_keep_70 : decode gb_Model_keep 70 = .ok (.iload 6, 2) := by decide +kernel
theorem gd_Model_keep_72 : decode gb_Model_keep 72 = .ok (.imul, 1) := by decide +kernel
theorem gd_Model_keep_73 : decode gb_Model_keep 73 = .ok (.iload_n 1, 1) := by decide +kernel
theorem gd_Model_keep_74 : decode gb_Model_keep 74 = .ok (.iadd, 1) := by decide +kernel
theorem gd_Model_keep_75 : decode gb_Model_keep 75 = .ok (.laload, 1) := by decide +kernel
theorem gd_Model_keep_76 : decode gb_Model_keep 76 = .ok (.lstore 7, 2) := by decide +kernel
theorem gd_Model_keep_78 : decode gb_Model_keep 78 = .ok (.lload 7, 2) := by decide +kernel
theorem gd_Model_keep_80 : decode gb_Model_keep 80 = .ok (.lconst 0, 1) := by decide +kernel
theorem gd_Model_keep_81 : decode gb_Model_keep 81 = .ok (.lcmp, 1) := by decide +kernel
theorem gd_Model_keep_82 : decode gb_Model_keep 82 = .ok (.ifCond .eq 60, 3) := by decide +kernel
theorem gd_Model_keep_85 : decode gb_Model_keep 85 = .ok (.iconst 0, 1) := by decide +kernel
theorem gd_Model_keep_86 : decode gb_Model_keep 86 = .ok (.istore 9, 2) := by decide +kernel
theorem gd_Model_keep_88 : decode gb_Model_keep 88 = .ok (.iload 9, 2) := by decide +kernel
theorem gd_Model_keep_90 : decode gb_Model_keep 90 = .ok (.bipush 60, 2) := by decide +kernel
theorem gd_Model_keep_92 : decode gb_Model_keep 92 = .ok (.if_icmp .gt 50, 3) := by decide +kernel
theorem gd_Model_keep_95 : decode gb_Model_keep 95 = .ok (.aload_n 0, 1) := by decide +kernel
theorem gd_Model_keep_96 : decode gb_Model_keep 96 = .ok (.getfield 79, 3) := by decide +kernel
theorem gd_Model_keep_99 : decode gb_Model_keep 99 = .ok (.bipush 61, 2) := by decide +kernel
theorem gd_Model_keep_101 : decode gb_Model_keep 101 = .ok (.iload 6, 2) := by decide +kernel
theorem gd_Model_keep_103 : decode gb_Model_keep 103 = .ok (.imul, 1) := by decide +kernel
theorem gd_Model_keep_104 : decode gb_Model_keep 104 = .ok (.iload 9, 2) := by decide +kernel
theorem gd_Model_keep_106 : decode gb_Model_keep 106 = .ok (.iadd, 1) := by decide +kernel
theorem gd_Model_keep_107 : decode gb_Model_keep 107 = .ok (.aload_n 0, 1) := by decide +kernel
theorem gd_Model_keep_108 : decode gb_Model_keep 108 = .ok (.getfield 79, 3) := by decide +kernel
theorem gd_Model_keep_111 : decode gb_Model_keep 111 = .ok (.bipush 61, 2) := by decide +kernel
theorem gd_Model_keep_113 : decode gb_Model_keep 113 = .ok (.iload 6, 2) := by decide +kernel
theorem gd_Model_keep_115 : decode gb_Model_keep 115 = .ok (.imul, 1) := by decide +kernel
theorem gd_Model_keep_116 : decode gb_Model_keep 116 = .ok (.iload 9, 2) := by decide +kernel
theorem gd_Model_keep_118 : decode gb_Model_keep 118 = .ok (.iadd, 1) := by decide +kernel
theorem gd_Model_keep_119 : decode gb_Model_keep 119 = .ok (.laload, 1) := by decide +kernel
theorem gd_Model_keep_120 : decode gb_Model_keep 120 = .ok (.lload_n 2, 1) := by decide +kernel
theorem gd_Model_keep_121 : decode gb_Model_keep 121 = .ok (.lload 7, 2) := by decide +kernel
theorem gd_Model_keep_123 : decode gb_Model_keep 123 = .ok (.lsub, 1) := by decide +kernel
theorem gd_Model_keep_124 : decode gb_Model_keep 124 = .ok (.aload_n 0, 1) := by decide +kernel
theorem gd_Model_keep_125 : decode gb_Model_keep 125 = .ok (.getfield 86, 3) := by decide +kernel
theorem gd_Model_keep_128 : decode gb_Model_keep 128 = .ok (.iload 9, 2) := by decide +kernel
theorem gd_Model_keep_130 : decode gb_Model_keep 130 = .ok (.laload, 1) := by decide +kernel
theorem gd_Model_keep_131 : decode gb_Model_keep 131 = .ok (.lmul, 1) := by decide +kernel
theorem gd_Model_keep_132 : decode gb_Model_keep 132 = .ok (.ladd, 1) := by decide +kernel
theorem gd_Model_keep_133 : decode gb_Model_keep 133 = .ok (.lload_n 2, 1) := by decide +kernel
theorem gd_Model_keep_134 : decode gb_Model_keep 134 = .ok (.lrem, 1) := by decide +kernel
theorem gd_Model_keep_135 : decode gb_Model_keep 135 = .ok (.lastore, 1) := by decide +kernel
theorem gd_Model_keep_136 : decode gb_Model_keep 136 = .ok (.iinc 9 1, 3) := by decide +kernel
theorem gd_Model_keep_139 : decode gb_Model_keep 139 = .ok (.goto (-51), 3) := by decide +kernel
theorem gd_Model_keep_142 : decode gb_Model_keep 142 = .ok (.iinc 6 1, 3) := by decide +kernel
theorem gd_Model_keep_145 : decode gb_Model_keep 145 = .ok (.goto (-90), 3) := by decide +kernel
theorem gd_Model_keep_148 : decode gb_Model_keep 148 = .ok (.iconst 0, 1) := by decide +kernel
theorem gd_Model_keep_149 : decode gb_Model_keep 149 = .ok (.istore 6, 2) := by decide +kernel
theorem gd_Model_keep_151 : decode gb_Model_keep 151 = .ok (.iload 6, 2) := by decide +kernel
theorem gd_Model_keep_153 : decode gb_Model_keep 153 = .ok (.bipush 60, 2) := by decide +kernel
theorem gd_Model_keep_155 : decode gb_Model_keep 155 = .ok (.if_icmp .gt 31, 3) := by decide +kernel
theorem gd_Model_keep_158 : decode gb_Model_keep 158 = .ok (.aload_n 0, 1) := by decide +kernel
theorem gd_Model_keep_159 : decode gb_Model_keep 159 = .ok (.getfield 79, 3) := by decide +kernel
theorem gd_Model_keep_162 : decode gb_Model_keep 162 = .ok (.bipush 61, 2) := by decide +kernel
theorem gd_Model_keep_164 : decode gb_Model_keep 164 = .ok (.aload_n 0, 1) := by decide +kernel
theorem gd_Model_keep_165 : decode gb_Model_keep 165 = .ok (.getfield 239, 3) := by decide +kernel
theorem gd_Model_keep_168 : decode gb_Model_keep 168 = .ok (.imul, 1) := by decide +kernel
theorem gd_Model_keep_169 : decode gb_Model_keep 169 = .ok (.iload 6, 2) := by decide +kernel
theorem gd_Model_keep_171 : decode gb_Model_keep 171 = .ok (.iadd, 1) := by decide +kernel
theorem gd_Model_keep_172 : decode gb_Model_keep 172 = .ok (.aload_n 0, 1) := by decide +kernel
theorem gd_Model_keep_173 : decode gb_Model_keep 173 = .ok (.getfield 86, 3) := by decide +kernel
theorem gd_Model_keep_176 : decode gb_Model_keep 176 = .ok (.iload 6, 2) := by decide +kernel
theorem gd_Model_keep_178 : decode gb_Model_keep 178 = .ok (.laload, 1) := by decide +kernel
theorem gd_Model_keep_179 : decode gb_Model_keep 179 = .ok (.lastore, 1) := by decide +kernel
theorem gd_Model_keep_180 : decode gb_Model_keep 180 = .ok (.iinc 6 1, 3) := by decide +kernel
theorem gd_Model_keep_183 : decode gb_Model_keep 183 = .ok (.goto (-32), 3) := by decide +kernel
theorem gd_Model_keep_186 : decode gb_Model_keep 186 = .ok (.aload_n 0, 1) := by decide +kernel
theorem gd_Model_keep_187 : decode gb_Model_keep 187 = .ok (.getfield 83, 3) := by decide +kernel
theorem gd_Model_keep_190 : decode gb_Model_keep 190 = .ok (.aload_n 0, 1) := by decide +kernel
theorem gd_Model_keep_191 : decode gb_Model_keep 191 = .ok (.getfield 239, 3) := by decide +kernel
theorem gd_Model_keep_194 : decode gb_Model_keep 194 = .ok (.iload_n 1, 1) := by decide +kernel
theorem gd_Model_keep_195 : decode gb_Model_keep 195 = .ok (.iastore, 1) := by decide +kernel
theorem gd_Model_keep_196 : decode gb_Model_keep 196 = .ok (.aload_n 0, 1) := by decide +kernel
theorem gd_Model_keep_197 : decode gb_Model_keep 197 = .ok (.dup, 1) := by decide +kernel
theorem gd_Model_keep_198 : decode gb_Model_keep 198 = .ok (.getfield 239, 3) := by decide +kernel
theorem gd_Model_keep_201 : decode gb_Model_keep 201 = .ok (.iconst 1, 1) := by decide +kernel
theorem gd_Model_keep_202 : decode gb_Model_keep 202 = .ok (.iadd, 1) := by decide +kernel
theorem gd_Model_keep_203 : decode gb_Model_keep 203 = .ok (.putfield 239, 3) := by decide +kernel
theorem gd_Model_keep_206 : decode gb_Model_keep 206 = .ok (.return_, 1) := by decide +kernel
def gf_Model_keep_b142 (F : Nat) (z : gw_Sh) (rc_55 : gw_St → Nat → Int32 → Int64 → Int32 → Option gw_St) (u : gw_St) (t0 : Nat) (x1 : Int32) (y2 : Int64) (x6 : Int32) : Option gw_St :=
  gf_nm (x6 + 1) fun a1 => rc_55 u t0 x1 y2 a1
def gf_Model_keep_S88 (F : Nat) (z : gw_Sh) (rc_55 : gw_St → Nat → Int32 → Int64 → Int32 → Option gw_St) (rc_88 : gw_St → Nat → Int32 → Int64 → Int32 → Int64 → Int32 → Option gw_St) (u : gw_St) (t0 : Nat) (x1 : Int32) (y2 : Int64) (x6 : Int32) (y7 : Int64) (x9 : Int32) : Option gw_St :=
  if (60 : Int32) < x9 then (gf_Model_keep_b142 F z rc_55 u t0 x1 y2 x6) else (gf_nn (u.2.2 t0 39) fun q4 => gf_nn (u.2.2 t0 39) fun q6 => if ((((61 : Int32) * x6) + x9) < 0 ∨ z.2.2 q6 ≤ ((((61 : Int32) * x6) + x9)).toNatClampNeg) then none else gf_nn (u.2.2 t0 42) fun q9 => if (x9 < 0 ∨ z.2.2 q9 ≤ (x9).toNatClampNeg) then none else if y2 = 0 then none else if ((((61 : Int32) * x6) + x9) < 0 ∨ z.2.2 q4 ≤ ((((61 : Int32) * x6) + x9)).toNatClampNeg) then none else gf_nm (gw_wl u q4 ((((61 : Int32) * x6) + x9)).toNatClampNeg (((u.2.1 q6 ((((61 : Int32) * x6) + x9)).toNatClampNeg) + ((y2 - y7) * (u.2.1 q9 (x9).toNatClampNeg))) - ((u.2.1 q6 ((((61 : Int32) * x6) + x9)).toNatClampNeg) + ((y2 - y7) * (u.2.1 q9 (x9).toNatClampNeg))) / y2 * y2)) fun u14 => gf_nm (x9 + 1) fun a16 => rc_88 u14 t0 x1 y2 x6 y7 a16)
def gf_Model_keep_L88 (F : Nat) (z : gw_Sh) (rc_55 : gw_St → Nat → Int32 → Int64 → Int32 → Option gw_St) : Nat → gw_St → Nat → Int32 → Int64 → Int32 → Int64 → Int32 → Option gw_St
  | 0 => fun _ _ _ _ _ _ _ => none
  | n + 1 => fun u t0 x1 y2 x6 y7 x9 => gf_Model_keep_S88 F z rc_55 (gf_Model_keep_L88 F z rc_55 n) u t0 x1 y2 x6 y7 x9
def gf_Model_keep_S151 (F : Nat) (z : gw_Sh)  (rc_151 : gw_St → Nat → Int32 → Int32 → Option gw_St) (u : gw_St) (t0 : Nat) (x1 : Int32) (x6 : Int32) : Option gw_St :=
  if (60 : Int32) < x6 then (gf_nn (u.2.2 t0 40) fun q19 => if ((u.1 t0 41) < 0 ∨ z.2.2 q19 ≤ ((u.1 t0 41)).toNatClampNeg) then none else gf_nm (gw_wi u q19 ((u.1 t0 41)).toNatClampNeg x1) fun u22 => gf_nm (gw_wi u22 t0 41 ((u22.1 t0 41) + (1 : Int32))) fun u24 => some u24) else (gf_nn (u.2.2 t0 39) fun q26 => gf_nn (u.2.2 t0 42) fun q28 => if (x6 < 0 ∨ z.2.2 q28 ≤ (x6).toNatClampNeg) then none else if ((((61 : Int32) * (u.1 t0 41)) + x6) < 0 ∨ z.2.2 q26 ≤ ((((61 : Int32) * (u.1 t0 41)) + x6)).toNatClampNeg) then none else gf_nm (gw_wl u q26 ((((61 : Int32) * (u.1 t0 41)) + x6)).toNatClampNeg (u.2.1 q28 (x6).toNatClampNeg)) fun u32 => gf_nm (x6 + 1) fun a34 => rc_151 u32 t0 x1 a34)
def gf_Model_keep_L151 (F : Nat) (z : gw_Sh)  : Nat → gw_St → Nat → Int32 → Int32 → Option gw_St
  | 0 => fun _ _ _ _ => none
  | n + 1 => fun u t0 x1 x6 => gf_Model_keep_S151 F z  (gf_Model_keep_L151 F z  n) u t0 x1 x6
def gf_Model_keep_S55 (F : Nat) (z : gw_Sh)  (rc_55 : gw_St → Nat → Int32 → Int64 → Int32 → Option gw_St) (u : gw_St) (t0 : Nat) (x1 : Int32) (y2 : Int64) (x6 : Int32) : Option gw_St :=
  if (u.1 t0 41) ≤ x6 then (gf_Model_keep_L151 F z  F u t0 x1 0) else (gf_nn (u.2.2 t0 39) fun q37 => if ((((61 : Int32) * x6) + x1) < 0 ∨ z.2.2 q37 ≤ ((((61 : Int32) * x6) + x1)).toNatClampNeg) then none else gf_nm (u.2.1 q37 ((((61 : Int32) * x6) + x1)).toNatClampNeg) fun a40 => if (lg_cmp a40 (0 : Int64)) = 0 then (gf_Model_keep_b142 F z rc_55 u t0 x1 y2 x6) else (gf_Model_keep_L88 F z rc_55 F u t0 x1 y2 x6 a40 0))
def gf_Model_keep_L55 (F : Nat) (z : gw_Sh)  : Nat → gw_St → Nat → Int32 → Int64 → Int32 → Option gw_St
  | 0 => fun _ _ _ _ _ => none
  | n + 1 => fun u t0 x1 y2 x6 => gf_Model_keep_S55 F z  (gf_Model_keep_L55 F z  n) u t0 x1 y2 x6
def gf_Model_keep_S20 (F : Nat) (z : gw_Sh)  (rc_20 : gw_St → Nat → Int32 → Int64 → Int64 → Int32 → Option gw_St) (u : gw_St) (t0 : Nat) (x1 : Int32) (y2 : Int64) (y4 : Int64) (x6 : Int32) : Option gw_St :=
  if (60 : Int32) < x6 then (gf_Model_keep_L55 F z  F u t0 x1 y2 0) else (gf_nn (u.2.2 t0 42) fun q44 => gf_nn (u.2.2 t0 42) fun q46 => if (x6 < 0 ∨ z.2.2 q46 ≤ (x6).toNatClampNeg) then none else if y2 = 0 then none else if (x6 < 0 ∨ z.2.2 q44 ≤ (x6).toNatClampNeg) then none else gf_nm (gw_wl u q44 (x6).toNatClampNeg (((u.2.1 q46 (x6).toNatClampNeg) * y4) - ((u.2.1 q46 (x6).toNatClampNeg) * y4) / y2 * y2)) fun u51 => gf_nm (x6 + 1) fun a53 => rc_20 u51 t0 x1 y2 y4 a53)
def gf_Model_keep_L20 (F : Nat) (z : gw_Sh)  : Nat → gw_St → Nat → Int32 → Int64 → Int64 → Int32 → Option gw_St
  | 0 => fun _ _ _ _ _ _ => none
  | n + 1 => fun u t0 x1 y2 y4 x6 => gf_Model_keep_S20 F z  (gf_Model_keep_L20 F z  n) u t0 x1 y2 y4 x6
def gf_Model_keep_b0 (F : Nat) (z : gw_Sh)  (u : gw_St) (t0 : Nat) (x1 : Int32) (y2 : Int64) : Option gw_St :=
  gf_nn (u.2.2 t0 42) fun q55 => if (x1 < 0 ∨ z.2.2 q55 ≤ (x1).toNatClampNeg) then none else gf_cl (gf_Model_power F z u (u.2.1 q55 (x1).toNatClampNeg) (y2 - (2 : Int64)) y2) fun a60 u58 => gf_Model_keep_L20 F z  F u58 t0 x1 y2 a60 0
def gf_Model_keep (F : Nat) (z : gw_Sh) (u : gw_St) (t0 : Nat) (x1 : Int32) (y2 : Int64) : Option gw_St := gf_Model_keep_b0 F z  u t0 x1 y2
set_option maxHeartbeats 4000000 in
set_option maxRecDepth 20000 in
theorem gx_Model_keep_b142 {p : Program} {l : Launch} {e : Env} {s : State} {m : MethodId} {args : Array Value} {below : List Frame} {meth : Method} {c : Code} {D : va_G} {cA : Nat → ClassId} {hs : Nat → Nat} {z : gw_Sh} (F : Nat) {r0 : gw_St} (C : gw_Cx p s m args c gb_Model_keep 10 R_Model D cA) (hr : meth.sig.returnType = none) (hk : meth.locks = false) {rc_55 : gw_St → Nat → Int32 → Int64 → Int32 → Option gw_St} (k_55 : ∀ (u : gw_St) (t0 : Nat) (x1 : Int32) (y2 : Int64) (x6 : Int32) (H : Heap) (locs : List Loc) (ls : Array Slot), gw_ok z t0 9 → gw_Wx D cA hs z s u H locs → lv_has ls 10 [(0, .ref (hs t0)), (1, .int x1), (2, .long y2), (6, .int x6)] → rc_55 u t0 x1 y2 x6 = some r0 → gw_Gv p l e gr_Model_keep s m args below meth c D cA hs z r0 H locs ls 55 []) (u : gw_St) (t0 : Nat) (x1 : Int32) (y2 : Int64) (x6 : Int32) (o_t0 : gw_ok z t0 9) {H : Heap} {locs : List Loc} {ls : Array Slot} (hW : gw_Wx D cA hs z s u H locs) (hl : lv_has ls 10 [(0, .ref (hs t0)), (1, .int x1), (2, .long y2), (6, .int x6)]) (h : gf_Model_keep_b142 F z rc_55  u t0 x1 y2 x6 = some r0) : gw_Gv p l e gr_Model_keep s m args below meth c D cA hs z r0 H locs ls 142 [] := by
  obtain ⟨hx, hb, hml, hown, hts, hK⟩ := id C
  unfold gf_Model_keep_b142 at h
  obtain ⟨a1, e2⟩ : ∃ y : Int32, y = x6 + 1 := ⟨_, rfl⟩
  have h := gf_nm_ok e2 h
  refine lv_iinc (v := a1) (lv' := [(6, .int a1), (0, .ref (hs t0)), (1, .int x1), (2, .long y2)]) hx hb gd_Model_keep_142 hl (k := 3) rfl (by rw [e2]; rfl) (by decide) rfl (fun ls hl => ?_)
  refine lv_goto (tgt := 55) hx hb gd_Model_keep_145 (by decide) ?_
  exact k_55 u t0 x1 y2 a1 _ _ _ o_t0 hW (lv_sub hl [1, 2, 3, 0] rfl) h

set_option maxHeartbeats 4000000 in
set_option maxRecDepth 20000 in
theorem gx_Model_keep_S88 {p : Program} {l : Launch} {e : Env} {s : State} {m : MethodId} {args : Array Value} {below : List Frame} {meth : Method} {c : Code} {D : va_G} {cA : Nat → ClassId} {hs : Nat → Nat} {z : gw_Sh} (F : Nat) {r0 : gw_St} (C : gw_Cx p s m args c gb_Model_keep 10 R_Model D cA) (hr : meth.sig.returnType = none) (hk : meth.locks = false) {rc_55 : gw_St → Nat → Int32 → Int64 → Int32 → Option gw_St} (k_55 : ∀ (u : gw_St) (t0 : Nat) (x1 : Int32) (y2 : Int64) (x6 : Int32) (H : Heap) (locs : List Loc) (ls : Array Slot), gw_ok z t0 9 → gw_Wx D cA hs z s u H locs → lv_has ls 10 [(0, .ref (hs t0)), (1, .int x1), (2, .long y2), (6, .int x6)] → rc_55 u t0 x1 y2 x6 = some r0 → gw_Gv p l e gr_Model_keep s m args below meth c D cA hs z r0 H locs ls 55 []) {rc_88 : gw_St → Nat → Int32 → Int64 → Int32 → Int64 → Int32 → Option gw_St} (k_88 : ∀ (u : gw_St) (t0 : Nat) (x1 : Int32) (y2 : Int64) (x6 : Int32) (y7 : Int64) (x9 : Int32) (H : Heap) (locs : List Loc) (ls : Array Slot), gw_ok z t0 9 → gw_Wx D cA hs z s u H locs → lv_has ls 10 [(0, .ref (hs t0)), (1, .int x1), (2, .long y2), (6, .int x6), (7, .long y7), (9, .int x9)] → rc_88 u t0 x1 y2 x6 y7 x9 = some r0 → gw_Gv p l e gr_Model_keep s m args below meth c D cA hs z r0 H locs ls 88 []) (u : gw_St) (t0 : Nat) (x1 : Int32) (y2 : Int64) (x6 : Int32) (y7 : Int64) (x9 : Int32) (o_t0 : gw_ok z t0 9) {H : Heap} {locs : List Loc} {ls : Array Slot} (hW : gw_Wx D cA hs z s u H locs) (hl : lv_has ls 10 [(0, .ref (hs t0)), (1, .int x1), (2, .long y2), (6, .int x6), (7, .long y7), (9, .int x9)]) (h : gf_Model_keep_S88 F z rc_55 rc_88 u t0 x1 y2 x6 y7 x9 = some r0) : gw_Gv p l e gr_Model_keep s m args below meth c D cA hs z r0 H locs ls 88 [] := by
  obtain ⟨hx, hb, hml, hown, hts, hK⟩ := id C
  unfold gf_Model_keep_S88 at h
  refine lv_iload hx hb gd_Model_keep_88 (lv_at hl 5 rfl) ?_
  refine lv_bipush (v := 60) hx hb gd_Model_keep_90 (by decide) ?_
  refine lv_icmp_gt (tgt := 142) hx hb gd_Model_keep_92 (by decide) (fun c3 => ?_) (fun c3 => ?_)
  · have h := gf_t c3 h
    exact gx_Model_keep_b142 F C hr hk k_55 u t0 x1 y2 x6 o_t0 hW (lv_sub hl [0, 1, 2, 3] rfl) h
  · have h := gf_f c3 h
    refine lv_aload_n hx hb gd_Model_keep_95 rfl (lv_at hl 0 rfl) ?_
    obtain ⟨q4, e5, h⟩ := gf_nn_ok h
    refine gw_getr (k := 39) (ty := 11) (ref := R_Model) C hW o_t0 (by decide) rfl gi_Model rfl (by decide) rfl rfl gk_498 gd_Model_keep_96 e5 ?_
    have o_q4 := hW.ref (d := 11) o_t0 e5 rfl
    refine lv_bipush (v := 61) hx hb gd_Model_keep_99 (by decide) ?_
    refine lv_iload hx hb gd_Model_keep_101 (lv_at hl 3 rfl) ?_
    refine lv_imul hx hb gd_Model_keep_103 ?_
    refine lv_iload hx hb gd_Model_keep_104 (lv_at hl 5 rfl) ?_
    refine lv_iadd hx hb gd_Model_keep_106 ?_
    refine lv_aload_n hx hb gd_Model_keep_107 rfl (lv_at hl 0 rfl) ?_
    obtain ⟨q6, e7, h⟩ := gf_nn_ok h
    refine gw_getr (k := 39) (ty := 11) (ref := R_Model) C hW o_t0 (by decide) rfl gi_Model rfl (by decide) rfl rfl gk_498 gd_Model_keep_108 e7 ?_
    have o_q6 := hW.ref (d := 11) o_t0 e7 rfl
    refine lv_bipush (v := 61) hx hb gd_Model_keep_111 (by decide) ?_
    refine lv_iload hx hb gd_Model_keep_113 (lv_at hl 3 rfl) ?_
    refine lv_imul hx hb gd_Model_keep_115 ?_
    refine lv_iload hx hb gd_Model_keep_116 (lv_at hl 5 rfl) ?_
    refine lv_iadd hx hb gd_Model_keep_118 ?_
    obtain ⟨g8, h⟩ := gf_if_ok h
    refine gw_lald C hW o_q6 g8 gd_Model_keep_119 ?_
    refine lv_lload_n hx hb gd_Model_keep_120 rfl (lv_at hl 2 rfl) ?_
    refine lv_lload hx hb gd_Model_keep_121 (lv_at hl 4 rfl) ?_
    refine lv_lsub hx hb gd_Model_keep_123 ?_
    refine lv_aload_n hx hb gd_Model_keep_124 rfl (lv_at hl 0 rfl) ?_
    obtain ⟨q9, e10, h⟩ := gf_nn_ok h
    refine gw_getr (k := 42) (ty := 11) (ref := R_Model) C hW o_t0 (by decide) rfl gi_Model rfl (by decide) rfl rfl gk_487 gd_Model_keep_125 e10 ?_
    have o_q9 := hW.ref (d := 11) o_t0 e10 rfl
    refine lv_iload hx hb gd_Model_keep_128 (lv_at hl 5 rfl) ?_
    obtain ⟨g11, h⟩ := gf_if_ok h
    refine gw_lald C hW o_q9 g11 gd_Model_keep_130 ?_
    refine lv_lmul hx hb gd_Model_keep_131 ?_
    refine lv_ladd hx hb gd_Model_keep_132 ?_
    refine lv_lload_n hx hb gd_Model_keep_133 rfl (lv_at hl 2 rfl) ?_
    obtain ⟨g12, h⟩ := gf_if_ok h
    refine lv_lrem hx hb gd_Model_keep_134 g12 ?_
    obtain ⟨g13, h⟩ := gf_if_ok h
    refine gw_last C hW o_q4 g13 gd_Model_keep_135 (fun u14 H locs e15 hW => ?_)
    have h := gf_nm_ok e15 h
    obtain ⟨a16, e17⟩ : ∃ y : Int32, y = x9 + 1 := ⟨_, rfl⟩
    have h := gf_nm_ok e17 h
    refine lv_iinc (v := a16) (lv' := [(9, .int a16), (0, .ref (hs t0)), (1, .int x1), (2, .long y2), (6, .int x6), (7, .long y7)]) hx hb gd_Model_keep_136 hl (k := 5) rfl (by rw [e17]; rfl) (by decide) rfl (fun ls hl => ?_)
    refine lv_goto (tgt := 88) hx hb gd_Model_keep_139 (by decide) ?_
    exact k_88 u14 t0 x1 y2 x6 y7 a16 _ _ _ o_t0 hW (lv_sub hl [1, 2, 3, 4, 5, 0] rfl) h
set_option maxHeartbeats 4000000 in
set_option maxRecDepth 20000 in
theorem gx_Model_keep_L88 {p : Program} {l : Launch} {e : Env} {s : State} {m : MethodId} {args : Array Value} {below : List Frame} {meth : Method} {c : Code} {D : va_G} {cA : Nat → ClassId} {hs : Nat → Nat} {z : gw_Sh} (F : Nat) {r0 : gw_St} (C : gw_Cx p s m args c gb_Model_keep 10 R_Model D cA) (hr : meth.sig.returnType = none) (hk : meth.locks = false) {rc_55 : gw_St → Nat → Int32 → Int64 → Int32 → Option gw_St} (k_55 : ∀ (u : gw_St) (t0 : Nat) (x1 : Int32) (y2 : Int64) (x6 : Int32) (H : Heap) (locs : List Loc) (ls : Array Slot), gw_ok z t0 9 → gw_Wx D cA hs z s u H locs → lv_has ls 10 [(0, .ref (hs t0)), (1, .int x1), (2, .long y2), (6, .int x6)] → rc_55 u t0 x1 y2 x6 = some r0 → gw_Gv p l e gr_Model_keep s m args below meth c D cA hs z r0 H locs ls 55 []) : ∀ (n : Nat), ∀ (u : gw_St) (t0 : Nat) (x1 : Int32) (y2 : Int64) (x6 : Int32) (y7 : Int64) (x9 : Int32) (H : Heap) (locs : List Loc) (ls : Array Slot), gw_ok z t0 9 → gw_Wx D cA hs z s u H locs → lv_has ls 10 [(0, .ref (hs t0)), (1, .int x1), (2, .long y2), (6, .int x6), (7, .long y7), (9, .int x9)] → gf_Model_keep_L88 F z rc_55 n u t0 x1 y2 x6 y7 x9 = some r0 → gw_Gv p l e gr_Model_keep s m args below meth c D cA hs z r0 H locs ls 88 [] := by
  intro n
  induction n with
  | zero =>
    intro u t0 x1 y2 x6 y7 x9 H locs ls o_t0 hW hl h
    cases h
  | succ n ih =>
    intro u t0 x1 y2 x6 y7 x9 H locs ls o_t0 hW hl h
    exact gx_Model_keep_S88 F C hr hk k_55 ih u t0 x1 y2 x6 y7 x9 o_t0 hW hl h

set_option maxHeartbeats 4000000 in
set_option maxRecDepth 20000 in
theorem gx_Model_keep_S151 {p : Program} {l : Launch} {e : Env} {s : State} {m : MethodId} {args : Array Value} {below : List Frame} {meth : Method} {c : Code} {D : va_G} {cA : Nat → ClassId} {hs : Nat → Nat} {z : gw_Sh} (F : Nat) {r0 : gw_St} (C : gw_Cx p s m args c gb_Model_keep 10 R_Model D cA) (hr : meth.sig.returnType = none) (hk : meth.locks = false) {rc_151 : gw_St → Nat → Int32 → Int32 → Option gw_St} (k_151 : ∀ (u : gw_St) (t0 : Nat) (x1 : Int32) (x6 : Int32) (H : Heap) (locs : List Loc) (ls : Array Slot), gw_ok z t0 9 → gw_Wx D cA hs z s u H locs → lv_has ls 10 [(0, .ref (hs t0)), (1, .int x1), (6, .int x6)] → rc_151 u t0 x1 x6 = some r0 → gw_Gv p l e gr_Model_keep s m args below meth c D cA hs z r0 H locs ls 151 []) (u : gw_St) (t0 : Nat) (x1 : Int32) (x6 : Int32) (o_t0 : gw_ok z t0 9) {H : Heap} {locs : List Loc} {ls : Array Slot} (hW : gw_Wx D cA hs z s u H locs) (hl : lv_has ls 10 [(0, .ref (hs t0)), (1, .int x1), (6, .int x6)]) (h : gf_Model_keep_S151 F z  rc_151 u t0 x1 x6 = some r0) : gw_Gv p l e gr_Model_keep s m args below meth c D cA hs z r0 H locs ls 151 [] := by
  obtain ⟨hx, hb, hml, hown, hts, hK⟩ := id C
  unfold gf_Model_keep_S151 at h
  refine lv_iload hx hb gd_Model_keep_151 (lv_at hl 2 rfl) ?_
  refine lv_bipush (v := 60) hx hb gd_Model_keep_153 (by decide) ?_
  refine lv_icmp_gt (tgt := 186) hx hb gd_Model_keep_155 (by decide) (fun c18 => ?_) (fun c18 => ?_)
  · have h := gf_t c18 h
    refine lv_aload_n hx hb gd_Model_keep_186 rfl (lv_at hl 0 rfl) ?_
    obtain ⟨q19, e20, h⟩ := gf_nn_ok h
    refine gw_getr (k := 40) (ty := 10) (ref := R_Model) C hW o_t0 (by decide) rfl gi_Model rfl (by decide) rfl rfl gk_500 gd_Model_keep_187 e20 ?_
    have o_q19 := hW.ref (d := 10) o_t0 e20 rfl
    refine lv_aload_n hx hb gd_Model_keep_190 rfl (lv_at hl 0 rfl) ?_
    refine gw_geti (k := 41) (ref := R_Model) C hW o_t0 (by decide) rfl gi_Model rfl (by decide) rfl rfl gk_499 gd_Model_keep_191 ?_
    refine lv_iload_n hx hb gd_Model_keep_194 rfl (lv_at hl 1 rfl) ?_
    obtain ⟨g21, h⟩ := gf_if_ok h
    refine gw_iast C hW o_q19 g21 gd_Model_keep_195 (fun u22 H locs e23 hW => ?_)
    have h := gf_nm_ok e23 h
    refine lv_aload_n hx hb gd_Model_keep_196 rfl (lv_at hl 0 rfl) ?_
    refine lv_dup hx hb gd_Model_keep_197 rfl ?_
    refine gw_geti (k := 41) (ref := R_Model) C hW o_t0 (by decide) rfl gi_Model rfl (by decide) rfl rfl gk_499 gd_Model_keep_198 ?_
    refine lv_iconst (v := 1) hx hb gd_Model_keep_201 (by decide) ?_
    refine lv_iadd hx hb gd_Model_keep_202 ?_
    refine gw_puti (k := 41) (ref := R_Model) (fty := .int) C hW o_t0 (by decide) rfl gi_Model rfl (by decide) rfl rfl gk_499 tf_Model tf_Model_ok nm_Model rfl rfl rfl rfl gd_Model_keep_203 (fun u24 H locs e25 hW => ?_)
    have h := gf_nm_ok e25 h
    obtain rfl := Option.some.inj h
    exact gw_vret C hW hr hk gd_Model_keep_206
  · have h := gf_f c18 h
    refine lv_aload_n hx hb gd_Model_keep_158 rfl (lv_at hl 0 rfl) ?_
    obtain ⟨q26, e27, h⟩ := gf_nn_ok h
    refine gw_getr (k := 39) (ty := 11) (ref := R_Model) C hW o_t0 (by decide) rfl gi_Model rfl (by decide) rfl rfl gk_498 gd_Model_keep_159 e27 ?_
    have o_q26 := hW.ref (d := 11) o_t0 e27 rfl
    refine lv_bipush (v := 61) hx hb gd_Model_keep_162 (by decide) ?_
    refine lv_aload_n hx hb gd_Model_keep_164 rfl (lv_at hl 0 rfl) ?_
    refine gw_geti (k := 41) (ref := R_Model) C hW o_t0 (by decide) rfl gi_Model rfl (by decide) rfl rfl gk_499 gd_Model_keep_165 ?_
    refine lv_imul hx hb gd_Model_keep_168 ?_
    refine lv_iload hx hb gd_Model_keep_169 (lv_at hl 2 rfl) ?_
    refine lv_iadd hx hb gd_Model_keep_171 ?_
    refine lv_aload_n hx hb gd_Model_keep_172 rfl (lv_at hl 0 rfl) ?_
    obtain ⟨q28, e29, h⟩ := gf_nn_ok h
    refine gw_getr (k := 42) (ty := 11) (ref := R_Model) C hW o_t0 (by decide) rfl gi_Model rfl (by decide) rfl rfl gk_487 gd_Model_keep_173 e29 ?_
    have o_q28 := hW.ref (d := 11) o_t0 e29 rfl
    refine lv_iload hx hb gd_Model_keep_176 (lv_at hl 2 rfl) ?_
    obtain ⟨g30, h⟩ := gf_if_ok h
    refine gw_lald C hW o_q28 g30 gd_Model_keep_178 ?_
    obtain ⟨g31, h⟩ := gf_if_ok h
    refine gw_last C hW o_q26 g31 gd_Model_keep_179 (fun u32 H locs e33 hW => ?_)
    have h := gf_nm_ok e33 h
    obtain ⟨a34, e35⟩ : ∃ y : Int32, y = x6 + 1 := ⟨_, rfl⟩
    have h := gf_nm_ok e35 h
    refine lv_iinc (v := a34) (lv' := [(6, .int a34), (0, .ref (hs t0)), (1, .int x1)]) hx hb gd_Model_keep_180 hl (k := 2) rfl (by rw [e35]; rfl) (by decide) rfl (fun ls hl => ?_)
    refine lv_goto (tgt := 151) hx hb gd_Model_keep_183 (by decide) ?_
    exact k_151 u32 t0 x1 a34 _ _ _ o_t0 hW (lv_sub hl [1, 2, 0] rfl) h
set_option maxHeartbeats 4000000 in
set_option maxRecDepth 20000 in
theorem gx_Model_keep_L151 {p : Program} {l : Launch} {e : Env} {s : State} {m : MethodId} {args : Array Value} {below : List Frame} {meth : Method} {c : Code} {D : va_G} {cA : Nat → ClassId} {hs : Nat → Nat} {z : gw_Sh} (F : Nat) {r0 : gw_St} (C : gw_Cx p s m args c gb_Model_keep 10 R_Model D cA) (hr : meth.sig.returnType = none) (hk : meth.locks = false) : ∀ (n : Nat), ∀ (u : gw_St) (t0 : Nat) (x1 : Int32) (x6 : Int32) (H : Heap) (locs : List Loc) (ls : Array Slot), gw_ok z t0 9 → gw_Wx D cA hs z s u H locs → lv_has ls 10 [(0, .ref (hs t0)), (1, .int x1), (6, .int x6)] → gf_Model_keep_L151 F z  n u t0 x1 x6 = some r0 → gw_Gv p l e gr_Model_keep s m args below meth c D cA hs z r0 H locs ls 151 [] := by
  intro n
  induction n with
  | zero =>
    intro u t0 x1 x6 H locs ls o_t0 hW hl h
    cases h
  | succ n ih =>
    intro u t0 x1 x6 H locs ls o_t0 hW hl h
    exact gx_Model_keep_S151 F C hr hk  ih u t0 x1 x6 o_t0 hW hl h

set_option maxHeartbeats 4000000 in
set_option maxRecDepth 20000 in
theorem gx_Model_keep_S55 {p : Program} {l : Launch} {e : Env} {s : State} {m : MethodId} {args : Array Value} {below : List Frame} {meth : Method} {c : Code} {D : va_G} {cA : Nat → ClassId} {hs : Nat → Nat} {z : gw_Sh} (F : Nat) {r0 : gw_St} (C : gw_Cx p s m args c gb_Model_keep 10 R_Model D cA) (hr : meth.sig.returnType = none) (hk : meth.locks = false) {rc_55 : gw_St → Nat → Int32 → Int64 → Int32 → Option gw_St} (k_55 : ∀ (u : gw_St) (t0 : Nat) (x1 : Int32) (y2 : Int64) (x6 : Int32) (H : Heap) (locs : List Loc) (ls : Array Slot), gw_ok z t0 9 → gw_Wx D cA hs z s u H locs → lv_has ls 10 [(0, .ref (hs t0)), (1, .int x1), (2, .long y2), (6, .int x6)] → rc_55 u t0 x1 y2 x6 = some r0 → gw_Gv p l e gr_Model_keep s m args below meth c D cA hs z r0 H locs ls 55 []) (u : gw_St) (t0 : Nat) (x1 : Int32) (y2 : Int64) (x6 : Int32) (o_t0 : gw_ok z t0 9) {H : Heap} {locs : List Loc} {ls : Array Slot} (hW : gw_Wx D cA hs z s u H locs) (hl : lv_has ls 10 [(0, .ref (hs t0)), (1, .int x1), (2, .long y2), (6, .int x6)]) (h : gf_Model_keep_S55 F z  rc_55 u t0 x1 y2 x6 = some r0) : gw_Gv p l e gr_Model_keep s m args below meth c D cA hs z r0 H locs ls 55 [] := by
  obtain ⟨hx, hb, hml, hown, hts, hK⟩ := id C
  unfold gf_Model_keep_S55 at h
  refine lv_iload hx hb gd_Model_keep_55 (lv_at hl 3 rfl) ?_
  refine lv_aload_n hx hb gd_Model_keep_57 rfl (lv_at hl 0 rfl) ?_
  refine gw_geti (k := 41) (ref := R_Model) C hW o_t0 (by decide) rfl gi_Model rfl (by decide) rfl rfl gk_499 gd_Model_keep_58 ?_
  refine lv_icmp_ge (tgt := 148) hx hb gd_Model_keep_61 (by decide) (fun c36 => ?_) (fun c36 => ?_)
  · have h := gf_t c36 h
    refine lv_iconst (v := 0) hx hb gd_Model_keep_148 (by decide) ?_
    refine lv_istore (lv' := [(6, .int 0), (0, .ref (hs t0)), (1, .int x1), (2, .long y2)]) hx hb gd_Model_keep_149 hl (by decide) rfl (fun ls hl => ?_)
    exact gx_Model_keep_L151 F C hr hk  F u t0 x1 0 _ _ _ o_t0 hW (lv_sub hl [1, 2, 0] rfl) h
  · have h := gf_f c36 h
    refine lv_aload_n hx hb gd_Model_keep_64 rfl (lv_at hl 0 rfl) ?_
    obtain ⟨q37, e38, h⟩ := gf_nn_ok h
    refine gw_getr (k := 39) (ty := 11) (ref := R_Model) C hW o_t0 (by decide) rfl gi_Model rfl (by decide) rfl rfl gk_498 gd_Model_keep_65 e38 ?_
    have o_q37 := hW.ref (d := 11) o_t0 e38 rfl
    refine lv_bipush (v := 61) hx hb gd_Model_keep_68 (by decide) ?_
    refine lv_iload hx hb gd_Model_keep_70 (lv_at hl 3 rfl) ?_
    refine lv_imul hx hb gd_Model_keep_72 ?_
    refine lv_iload_n hx hb gd_Model_keep_73 rfl (lv_at hl 1 rfl) ?_
    refine lv_iadd hx hb gd_Model_keep_74 ?_
    obtain ⟨g39, h⟩ := gf_if_ok h
    refine gw_lald C hW o_q37 g39 gd_Model_keep_75 ?_
    refine lv_topl (fun a40 e41 => ?_)
    have h := gf_nm_ok e41 h
    refine lv_lstore (lv' := [(7, .long a40), (0, .ref (hs t0)), (1, .int x1), (2, .long y2), (6, .int x6)]) hx hb gd_Model_keep_76 hl (by decide) rfl (fun ls hl => ?_)
    refine lv_lload hx hb gd_Model_keep_78 (lv_at hl 0 rfl) ?_
    refine lv_lconst (v := 0) hx hb gd_Model_keep_80 (by decide) ?_
    refine W.lcmp hx hb gd_Model_keep_81 ?_
    refine lv_if_eq (tgt := 142) hx hb gd_Model_keep_82 (by decide) (fun c42 => ?_) (fun c42 => ?_)
    · have h := gf_t c42 h
      exact gx_Model_keep_b142 F C hr hk k_55 u t0 x1 y2 x6 o_t0 hW (lv_sub hl [1, 2, 3, 4] rfl) h
    · have h := gf_f c42 h
      refine lv_iconst (v := 0) hx hb gd_Model_keep_85 (by decide) ?_
      refine lv_istore (lv' := [(9, .int 0), (7, .long a40), (0, .ref (hs t0)), (1, .int x1), (2, .long y2), (6, .int x6)]) hx hb gd_Model_keep_86 hl (by decide) rfl (fun ls hl => ?_)
      exact gx_Model_keep_L88 F C hr hk k_55 F u t0 x1 y2 x6 a40 0 _ _ _ o_t0 hW (lv_sub hl [2, 3, 4, 5, 1, 0] rfl) h
set_option maxHeartbeats 4000000 in
set_option maxRecDepth 20000 in
theorem gx_Model_keep_L55 {p : Program} {l : Launch} {e : Env} {s : State} {m : MethodId} {args : Array Value} {below : List Frame} {meth : Method} {c : Code} {D : va_G} {cA : Nat → ClassId} {hs : Nat → Nat} {z : gw_Sh} (F : Nat) {r0 : gw_St} (C : gw_Cx p s m args c gb_Model_keep 10 R_Model D cA) (hr : meth.sig.returnType = none) (hk : meth.locks = false) : ∀ (n : Nat), ∀ (u : gw_St) (t0 : Nat) (x1 : Int32) (y2 : Int64) (x6 : Int32) (H : Heap) (locs : List Loc) (ls : Array Slot), gw_ok z t0 9 → gw_Wx D cA hs z s u H locs → lv_has ls 10 [(0, .ref (hs t0)), (1, .int x1), (2, .long y2), (6, .int x6)] → gf_Model_keep_L55 F z  n u t0 x1 y2 x6 = some r0 → gw_Gv p l e gr_Model_keep s m args below meth c D cA hs z r0 H locs ls 55 [] := by
  intro n
  induction n with
  | zero =>
    intro u t0 x1 y2 x6 H locs ls o_t0 hW hl h
    cases h
  | succ n ih =>
    intro u t0 x1 y2 x6 H locs ls o_t0 hW hl h
    exact gx_Model_keep_S55 F C hr hk  ih u t0 x1 y2 x6 o_t0 hW hl h

set_option maxHeartbeats 4000000 in
set_option maxRecDepth 20000 in
theorem gx_Model_keep_S20 {p : Program} {l : Launch} {e : Env} {s : State} {m : MethodId} {args : Array Value} {below : List Frame} {meth : Method} {c : Code} {D : va_G} {cA : Nat → ClassId} {hs : Nat → Nat} {z : gw_Sh} (F : Nat) {r0 : gw_St} (C : gw_Cx p s m args c gb_Model_keep 10 R_Model D cA) (hr : meth.sig.returnType = none) (hk : meth.locks = false) {rc_20 : gw_St → Nat → Int32 → Int64 → Int64 → Int32 → Option gw_St} (k_20 : ∀ (u : gw_St) (t0 : Nat) (x1 : Int32) (y2 : Int64) (y4 : Int64) (x6 : Int32) (H : Heap) (locs : List Loc) (ls : Array Slot), gw_ok z t0 9 → gw_Wx D cA hs z s u H locs → lv_has ls 10 [(0, .ref (hs t0)), (1, .int x1), (2, .long y2), (4, .long y4), (6, .int x6)] → rc_20 u t0 x1 y2 y4 x6 = some r0 → gw_Gv p l e gr_Model_keep s m args below meth c D cA hs z r0 H locs ls 20 []) (u : gw_St) (t0 : Nat) (x1 : Int32) (y2 : Int64) (y4 : Int64) (x6 : Int32) (o_t0 : gw_ok z t0 9) {H : Heap} {locs : List Loc} {ls : Array Slot} (hW : gw_Wx D cA hs z s u H locs) (hl : lv_has ls 10 [(0, .ref (hs t0)), (1, .int x1), (2, .long y2), (4, .long y4), (6, .int x6)]) (h : gf_Model_keep_S20 F z  rc_20 u t0 x1 y2 y4 x6 = some r0) : gw_Gv p l e gr_Model_keep s m args below meth c D cA hs z r0 H locs ls 20 [] := by
  obtain ⟨hx, hb, hml, hown, hts, hK⟩ := id C
  unfold gf_Model_keep_S20 at h
  refine lv_iload hx hb gd_Model_keep_20 (lv_at hl 4 rfl) ?_
  refine lv_bipush (v := 60) hx hb gd_Model_keep_22 (by decide) ?_
  refine lv_icmp_gt (tgt := 52) hx hb gd_Model_keep_24 (by decide) (fun c43 => ?_) (fun c43 => ?_)
  · have h := gf_t c43 h
    refine lv_iconst (v := 0) hx hb gd_Model_keep_52 (by decide) ?_
    refine lv_istore (lv' := [(6, .int 0), (0, .ref (hs t0)), (1, .int x1), (2, .long y2), (4, .long y4)]) hx hb gd_Model_keep_53 hl (by decide) rfl (fun ls hl => ?_)
    exact gx_Model_keep_L55 F C hr hk  F u t0 x1 y2 0 _ _ _ o_t0 hW (lv_sub hl [1, 2, 3, 0] rfl) h
  · have h := gf_f c43 h
    refine lv_aload_n hx hb gd_Model_keep_27 rfl (lv_at hl 0 rfl) ?_
    obtain ⟨q44, e45, h⟩ := gf_nn_ok h
    refine gw_getr (k := 42) (ty := 11) (ref := R_Model) C hW o_t0 (by decide) rfl gi_Model rfl (by decide) rfl rfl gk_487 gd_Model_keep_28 e45 ?_
    have o_q44 := hW.ref (d := 11) o_t0 e45 rfl
    refine lv_iload hx hb gd_Model_keep_31 (lv_at hl 4 rfl) ?_
    refine lv_aload_n hx hb gd_Model_keep_33 rfl (lv_at hl 0 rfl) ?_
    obtain ⟨q46, e47, h⟩ := gf_nn_ok h
    refine gw_getr (k := 42) (ty := 11) (ref := R_Model) C hW o_t0 (by decide) rfl gi_Model rfl (by decide) rfl rfl gk_487 gd_Model_keep_34 e47 ?_
    have o_q46 := hW.ref (d := 11) o_t0 e47 rfl
    refine lv_iload hx hb gd_Model_keep_37 (lv_at hl 4 rfl) ?_
    obtain ⟨g48, h⟩ := gf_if_ok h
    refine gw_lald C hW o_q46 g48 gd_Model_keep_39 ?_
    refine lv_lload hx hb gd_Model_keep_40 (lv_at hl 3 rfl) ?_
    refine lv_lmul hx hb gd_Model_keep_42 ?_
    refine lv_lload_n hx hb gd_Model_keep_43 rfl (lv_at hl 2 rfl) ?_
    obtain ⟨g49, h⟩ := gf_if_ok h
    refine lv_lrem hx hb gd_Model_keep_44 g49 ?_
    obtain ⟨g50, h⟩ := gf_if_ok h
    refine gw_last C hW o_q44 g50 gd_Model_keep_45 (fun u51 H locs e52 hW => ?_)
    have h := gf_nm_ok e52 h
    obtain ⟨a53, e54⟩ : ∃ y : Int32, y = x6 + 1 := ⟨_, rfl⟩
    have h := gf_nm_ok e54 h
    refine lv_iinc (v := a53) (lv' := [(6, .int a53), (0, .ref (hs t0)), (1, .int x1), (2, .long y2), (4, .long y4)]) hx hb gd_Model_keep_46 hl (k := 4) rfl (by rw [e54]; rfl) (by decide) rfl (fun ls hl => ?_)
    refine lv_goto (tgt := 20) hx hb gd_Model_keep_49 (by decide) ?_
    exact k_20 u51 t0 x1 y2 y4 a53 _ _ _ o_t0 hW (lv_sub hl [1, 2, 3, 4, 0] rfl) h
set_option maxHeartbeats 4000000 in
set_option maxRecDepth 20000 in
theorem gx_Model_keep_L20 {p : Program} {l : Launch} {e : Env} {s : State} {m : MethodId} {args : Array Value} {below : List Frame} {meth : Method} {c : Code} {D : va_G} {cA : Nat → ClassId} {hs : Nat → Nat} {z : gw_Sh} (F : Nat) {r0 : gw_St} (C : gw_Cx p s m args c gb_Model_keep 10 R_Model D cA) (hr : meth.sig.returnType = none) (hk : meth.locks = false) : ∀ (n : Nat), ∀ (u : gw_St) (t0 : Nat) (x1 : Int32) (y2 : Int64) (y4 : Int64) (x6 : Int32) (H : Heap) (locs : List Loc) (ls : Array Slot), gw_ok z t0 9 → gw_Wx D cA hs z s u H locs → lv_has ls 10 [(0, .ref (hs t0)), (1, .int x1), (2, .long y2), (4, .long y4), (6, .int x6)] → gf_Model_keep_L20 F z  n u t0 x1 y2 y4 x6 = some r0 → gw_Gv p l e gr_Model_keep s m args below meth c D cA hs z r0 H locs ls 20 [] := by
  intro n
  induction n with
  | zero =>
    intro u t0 x1 y2 y4 x6 H locs ls o_t0 hW hl h
    cases h
  | succ n ih =>
    intro u t0 x1 y2 y4 x6 H locs ls o_t0 hW hl h
    exact gx_Model_keep_S20 F C hr hk  ih u t0 x1 y2 y4 x6 o_t0 hW hl h

set_option maxHeartbeats 4000000 in
set_option maxRecDepth 20000 in
theorem gx_Model_keep_b0 {p : Program} {l : Launch} {e : Env} {s : State} {m : MethodId} {args : Array Value} {below : List Frame} {meth : Method} {c : Code} {D : va_G} {cA : Nat → ClassId} {hs : Nat → Nat} {z : gw_Sh} (F : Nat) {r0 : gw_St} (C : gw_Cx p s m args c gb_Model_keep 10 R_Model D cA) (hr : meth.sig.returnType = none) (hk : meth.locks = false) (u : gw_St) (t0 : Nat) (x1 : Int32) (y2 : Int64) (o_t0 : gw_ok z t0 9) {H : Heap} {locs : List Loc} {ls : Array Slot} (hW : gw_Wx D cA hs z s u H locs) (hl : lv_has ls 10 [(0, .ref (hs t0)), (1, .int x1), (2, .long y2)]) (h : gf_Model_keep_b0 F z   u t0 x1 y2 = some r0) : gw_Gv p l e gr_Model_keep s m args below meth c D cA hs z r0 H locs ls 0 [] := by
  obtain ⟨hx, hb, hml, hown, hts, hK⟩ := id C
  unfold gf_Model_keep_b0 at h
  refine lv_aload_n hx hb gd_Model_keep_0 rfl (lv_at hl 0 rfl) ?_
  obtain ⟨q55, e56, h⟩ := gf_nn_ok h
  refine gw_getr (k := 42) (ty := 11) (ref := R_Model) C hW o_t0 (by decide) rfl gi_Model rfl (by decide) rfl rfl gk_487 gd_Model_keep_1 e56 ?_
  have o_q55 := hW.ref (d := 11) o_t0 e56 rfl
  refine lv_iload_n hx hb gd_Model_keep_4 rfl (lv_at hl 1 rfl) ?_
  obtain ⟨g57, h⟩ := gf_if_ok h
  refine gw_lald C hW o_q55 g57 gd_Model_keep_5 ?_
  refine lv_lload_n hx hb gd_Model_keep_6 rfl (lv_at hl 2 rfl) ?_
  refine lv_ldc2 (v := 2) hx hb hown (hts _ gk_381) gd_Model_keep_7 ?_
  refine lv_lsub hx hb gd_Model_keep_10 ?_
  refine lv_lload_n hx hb gd_Model_keep_11 rfl (lv_at hl 2 rfl) ?_
  obtain ⟨a60, u58, d59, h⟩ := gf_cl_ok h
  refine gw_callSl (As := [.long (u.2.1 q55 (x1).toNatClampNeg), .long (y2 - (2 : Int64)), .long y2]) (rest := []) C hW (fun _ h => Or.inr h) hl.1 gm_Model_power (gc_Model_power l F  d59 _) gk_502 gk_503 rfl rfl ⟨Nat.le_of_ble_eq_true rfl, Nat.le_of_ble_eq_true rfl⟩ ⟨Nat.zero_le _, Nat.zero_le _⟩ rfl rfl (Nat.le_of_ble_eq_true rfl) gd_Model_keep_12 (fun H locs hW => ?_)
  refine lv_lstore (lv' := [(4, .long a60), (0, .ref (hs t0)), (1, .int x1), (2, .long y2)]) hx hb gd_Model_keep_15 hl (by decide) rfl (fun ls hl => ?_)
  refine lv_iconst (v := 0) hx hb gd_Model_keep_17 (by decide) ?_
  refine lv_istore (lv' := [(6, .int 0), (4, .long a60), (0, .ref (hs t0)), (1, .int x1), (2, .long y2)]) hx hb gd_Model_keep_18 hl (by decide) rfl (fun ls hl => ?_)
  exact gx_Model_keep_L20 F C hr hk  F u58 t0 x1 y2 a60 0 _ _ _ o_t0 hW (lv_sub hl [2, 3, 4, 1, 0] rfl) h

set_option maxRecDepth 20000 in
theorem gc_Model_keep (l : Launch) {D : va_G} {cA : Nat → ClassId} {hs : Nat → Nat} {z : gw_Sh} (F : Nat) {u : gw_St} {r0 : gw_St} {t0 : Nat} {x1 : Int32} {y2 : Int64} (o_t0 : gw_ok z t0 9) (h : gf_Model_keep F z u t0 x1 y2 = some r0) (sz : Nat) : gw_Mv l gy_Model_keep gb_Model_keep 10 none gr_Model_keep [.ref (hs t0), .int x1, .long y2] D cA hs z u sz r0 := by
  refine gw_enter (by decide) (Nat.le_of_ble_eq_true rfl) ?_
  intro p e s m below meth c ls hsz C hW hr hk _ hl
  subst hsz
  exact gx_Model_keep_b0 F C hr hk u t0 x1 y2 o_t0 hW (lv_sub hl [0, 1, 2] rfl) h
-- GearDeskModel.crankLine()V
def gy_Model_crankLine : MethodName := ⟨R_Model, "crankLine", "()V"⟩
abbrev gb_Model_crankLine : ByteArray := prog_11_method_40_code
theorem gk_505 : Cond.code gy_Model_crankLine gb_Model_crankLine 1 none ∈ gt_T := gt_m7 (List.mem_of_getElem? (i := 120) rfl) rfl
def gr_Model_crankLine : Room := gw_rm 2 85
theorem gm_Model_crankLine : gw_Mth gy_Model_crankLine gb_Model_crankLine 1 none 0 := ⟨gk_505, gk_377, ⟨by decide +kernel, by decide +kernel⟩, by decide +kernel⟩
theorem gd_Model_crankLine_0 : decode gb_Model_crankLine 0 = .ok (.aload_n 0, 1) := by decide +kernel
theorem gd_Model_crankLine_1 : decode gb_Model_crankLine 1 = .ok (.invokevirtual 230, 3) := by decide +kernel
theorem gd_Model_crankLine_4 : decode gb_Model_crankLine 4 = .ok (.aload_n 0, 1) := by decide +kernel
theorem gd_Model_crankLine_5 : decode gb_Model_crankLine 5 = .ok (.getfield 86, 3) := by decide +kernel
theorem gd_Model_crankLine_8 : decode gb_Model_crankLine 8 = .ok (.aload_n 0, 1) := by decide +kernel
theorem gd_Model_crankLine_9 : decode gb_Model_crankLine 9 = .ok (.getfield 20, 3) := by decide +kernel
theorem gd_Model_crankLine_12 : decode gb_Model_crankLine 12 = .ok (.lconst 1, 1) := by decide +kernel
theorem gd_Model_crankLine_13 : decode gb_Model_crankLine 13 = .ok (.lastore, 1) := by decide +kernel
theorem gd_Model_crankLine_14 : decode gb_Model_crankLine 14 = .ok (.aload_n 0, 1) := by decide +kernel
theorem gd_Model_crankLine_15 : decode gb_Model_crankLine 15 = .ok (.getfield 86, 3) := by decide +kernel
theorem gd_Model_crankLine_18 : decode gb_Model_crankLine 18 = .ok (.bipush 60, 2) := by decide +kernel
theorem gd_Model_crankLine_20 : decode gb_Model_crankLine 20 = .ok (.lconst 1, 1) := by decide +kernel
theorem gd_Model_crankLine_21 : decode gb_Model_crankLine 21 = .ok (.lastore, 1) := by decide +kernel
theorem gd_Model_crankLine_22 : decode gb_Model_crankLine 22 = .ok (.return_, 1) := by decide +kernel
def gf_Model_crankLine_b0 (F : Nat) (z : gw_Sh)  (u : gw_St) (t0 : Nat) : Option gw_St :=
  (gf_Model_clearLine F z u t0).bind fun u1 => gf_nn (u1.2.2 t0 42) fun q3 => if ((u1.1 t0 20) < 0 ∨ z.2.2 q3 ≤ ((u1.1 t0 20)).toNatClampNeg) then none else gf_nm (gw_wl u1 q3 ((u1.1 t0 20)).toNatClampNeg (1 : Int64)) fun u6 => gf_nn (u6.2.2 t0 42) fun q8 => if ((60 : Int32) < 0 ∨ z.2.2 q8 ≤ ((60 : Int32)).toNatClampNeg) then none else gf_nm (gw_wl u6 q8 ((60 : Int32)).toNatClampNeg (1 : Int64)) fun u11 => some u11
def gf_Model_crankLine (F : Nat) (z : gw_Sh) (u : gw_St) (t0 : Nat) : Option gw_St := gf_Model_crankLine_b0 F z  u t0
set_option maxHeartbeats 4000000 in
set_option maxRecDepth 20000 in
theorem gx_Model_crankLine_b0 {p : Program} {l : Launch} {e : Env} {s : State} {m : MethodId} {args : Array Value} {below : List Frame} {meth : Method} {c : Code} {D : va_G} {cA : Nat → ClassId} {hs : Nat → Nat} {z : gw_Sh} (F : Nat) {r0 : gw_St} (C : gw_Cx p s m args c gb_Model_crankLine 1 R_Model D cA) (hr : meth.sig.returnType = none) (hk : meth.locks = false) (u : gw_St) (t0 : Nat) (o_t0 : gw_ok z t0 9) {H : Heap} {locs : List Loc} {ls : Array Slot} (hW : gw_Wx D cA hs z s u H locs) (hl : lv_has ls 1 [(0, .ref (hs t0))]) (h : gf_Model_crankLine_b0 F z   u t0 = some r0) : gw_Gv p l e gr_Model_crankLine s m args below meth c D cA hs z r0 H locs ls 0 [] := by
  obtain ⟨hx, hb, hml, hown, hts, hK⟩ := id C
  unfold gf_Model_crankLine_b0 at h
  refine lv_aload_n hx hb gd_Model_crankLine_0 rfl (lv_at hl 0 rfl) ?_
  obtain ⟨u1, d2, h⟩ := gf_bd_ok h
  refine gw_callVv (K := R_Model) (As := []) (rest := []) C hW (fun _ h => Or.inr h) hl.1 gm_Model_clearLine (gc_Model_clearLine l F o_t0 d2 _) gk_493 gk_494 gk_495 o_t0 (by decide) rfl rfl rfl ⟨Nat.le_of_ble_eq_true rfl, Nat.le_of_ble_eq_true rfl⟩ ⟨Nat.zero_le _, Nat.zero_le _⟩ rfl rfl (Nat.le_of_ble_eq_true rfl) gd_Model_crankLine_1 (fun H locs hW => ?_)
  refine lv_aload_n hx hb gd_Model_crankLine_4 rfl (lv_at hl 0 rfl) ?_
  obtain ⟨q3, e4, h⟩ := gf_nn_ok h
  refine gw_getr (k := 42) (ty := 11) (ref := R_Model) C hW o_t0 (by decide) rfl gi_Model rfl (by decide) rfl rfl gk_487 gd_Model_crankLine_5 e4 ?_
  have o_q3 := hW.ref (d := 11) o_t0 e4 rfl
  refine lv_aload_n hx hb gd_Model_crankLine_8 rfl (lv_at hl 0 rfl) ?_
  refine gw_geti (k := 20) (ref := R_Model) C hW o_t0 (by decide) rfl gi_Model rfl (by decide) rfl rfl gk_484 gd_Model_crankLine_9 ?_
  refine lv_lconst (v := 1) hx hb gd_Model_crankLine_12 (by decide) ?_
  obtain ⟨g5, h⟩ := gf_if_ok h
  refine gw_last C hW o_q3 g5 gd_Model_crankLine_13 (fun u6 H locs e7 hW => ?_)
  have h := gf_nm_ok e7 h
  refine lv_aload_n hx hb gd_Model_crankLine_14 rfl (lv_at hl 0 rfl) ?_
  obtain ⟨q8, e9, h⟩ := gf_nn_ok h
  refine gw_getr (k := 42) (ty := 11) (ref := R_Model) C hW o_t0 (by decide) rfl gi_Model rfl (by decide) rfl rfl gk_487 gd_Model_crankLine_15 e9 ?_
  have o_q8 := hW.ref (d := 11) o_t0 e9 rfl
  refine lv_bipush (v := 60) hx hb gd_Model_crankLine_18 (by decide) ?_
  refine lv_lconst (v := 1) hx hb gd_Model_crankLine_20 (by decide) ?_
  obtain ⟨g10, h⟩ := gf_if_ok h
  refine gw_last C hW o_q8 g10 gd_Model_crankLine_21 (fun u11 H locs e12 hW => ?_)
  have h := gf_nm_ok e12 h
  obtain rfl := Option.some.inj h
  exact gw_vret C hW hr hk gd_Model_crankLine_22

set_option maxRecDepth 20000 in
theorem gc_Model_crankLine (l : Launch) {D : va_G} {cA : Nat → ClassId} {hs : Nat → Nat} {z : gw_Sh} (F : Nat) {u : gw_St} {r0 : gw_St} {t0 : Nat} (o_t0 : gw_ok z t0 9) (h : gf_Model_crankLine F z u t0 = some r0) (sz : Nat) : gw_Mv l gy_Model_crankLine gb_Model_crankLine 1 none gr_Model_crankLine [.ref (hs t0)] D cA hs z u sz r0 := by
  refine gw_enter (by decide) (Nat.le_of_ble_eq_true rfl) ?_
  intro p e s m below meth c ls hsz C hW hr hk _ hl
  subst hsz
  exact gx_Model_crankLine_b0 F C hr hk u t0 o_t0 hW (lv_sub hl [0] rfl) h
-- GearDeskModel.rankAll(J)V
theorem gk_506 : Cond.fieldLink R_Model 92 R_Model "cranked" "[I" ∈ gt_T := gt_m6 (List.mem_of_getElem? (i := 96) rfl) rfl
theorem gk_507 : Cond.methodLink R_Model 257 gy_Model_crankLine ∈ gt_T := gt_m7 (List.mem_of_getElem? (i := 117) rfl) rfl
theorem gk_508 : Cond.instanceMethod gy_Model_crankLine ∈ gt_T := gt_m7 (List.mem_of_getElem? (i := 119) rfl) rfl
theorem gk_509 : Cond.selects R_Model gy_Model_crankLine gy_Model_crankLine ∈ gt_T := gt_p4 (List.mem_of_getElem? (i := 4) rfl) rfl
theorem gk_510 : Cond.methodLink R_Model 250 gy_Model_reduce ∈ gt_T := gt_m7 (List.mem_of_getElem? (i := 106) rfl) rfl
theorem gk_511 : Cond.instanceMethod gy_Model_reduce ∈ gt_T := gt_m7 (List.mem_of_getElem? (i := 108) rfl) rfl
theorem gk_512 : Cond.selects R_Model gy_Model_reduce gy_Model_reduce ∈ gt_T := gt_p4 (List.mem_of_getElem? (i := 2) rfl) rfl
theorem gk_513 : Cond.fieldLink R_Model 89 R_Model "plain" "[I" ∈ gt_T := gt_m6 (List.mem_of_getElem? (i := 95) rfl) rfl
theorem gk_514 : Cond.methodLink R_Model 246 gy_Model_lineOf ∈ gt_T := gt_m7 (List.mem_of_getElem? (i := 93) rfl) rfl
theorem gk_515 : Cond.instanceMethod gy_Model_lineOf ∈ gt_T := gt_m7 (List.mem_of_getElem? (i := 95) rfl) rfl
theorem gk_516 : Cond.selects R_Model gy_Model_lineOf gy_Model_lineOf ∈ gt_T := gt_p3 (List.mem_of_getElem? (i := 15) rfl) rfl
theorem gk_517 : Cond.methodLink R_Model 254 gy_Model_keep ∈ gt_T := gt_m7 (List.mem_of_getElem? (i := 110) rfl) rfl
theorem gk_518 : Cond.instanceMethod gy_Model_keep ∈ gt_T := gt_m7 (List.mem_of_getElem? (i := 112) rfl) rfl
theorem gk_519 : Cond.selects R_Model gy_Model_keep gy_Model_keep ∈ gt_T := gt_p4 (List.mem_of_getElem? (i := 3) rfl) rfl
def gy_Model_rankAll : MethodName := ⟨R_Model, "rankAll", "(J)V"⟩
abbrev gb_Model_rankAll : ByteArray := prog_11_method_41_code
theorem gk_520 : Cond.code gy_Model_rankAll gb_Model_rankAll 6 none ∈ gt_T := gt_m7 (List.mem_of_getElem? (i := 92) rfl) rfl
def gr_Model_rankAll : Room := gw_rm 3 124
theorem gm_Model_rankAll : gw_Mth gy_Model_rankAll gb_Model_rankAll 6 none 1 := ⟨gk_520, gk_377, ⟨by decide +kernel, by decide +kernel⟩, by decide +kernel⟩
theorem gd_Model_rankAll_0 : decode gb_Model_rankAll 0 = .ok (.aload_n 0, 1) := by decide +kernel
theorem gd_Model_rankAll_1 : decode gb_Model_rankAll 1 = .ok (.iconst 0, 1) := by decide +kernel
theorem gd_Model_rankAll_2 : decode gb_Model_rankAll 2 = .ok (.putfield 239, 3) := by decide +kernel
theorem gd_Model_rankAll_5 : decode gb_Model_rankAll 5 = .ok (.iconst 0, 1) := by decide +kernel
theorem gd_Model_rankAll_6 : decode gb_Model_rankAll 6 = .ok (.istore_n 3, 1) := by decide +kernel
theorem gd_Model_rankAll_7 : decode gb_Model_rankAll 7 = .ok (.iload_n 3, 1) := by decide +kernel
theorem gd_Model_rankAll_8 : decode gb_Model_rankAll 8 = .ok (.aload_n 0, 1) := by decide +kernel
theorem gd_Model_rankAll_9 : decode gb_Model_rankAll 9 = .ok (.getfield 223, 3) := by decide +kernel
theorem gd_Model_rankAll_12 : decode gb_Model_rankAll 12 = .ok (.if_icmp .ge 121, 3) := by decide +kernel
theorem gd_Model_rankAll_15 : decode gb_Model_rankAll 15 = .ok (.aload_n 0, 1) := by decide +kernel
theorem gd_Model_rankAll_16 : decode gb_Model_rankAll 16 = .ok (.iload_n 3, 1) := by decide +kernel
theorem gd_Model_rankAll_17 : decode gb_Model_rankAll 17 = .ok (.lload_n 1, 1) := by decide +kernel
theorem gd_Model_rankAll_18 : decode gb_Model_rankAll 18 = .ok (.invokevirtual 246, 3) := by decide +kernel
theorem gd_Model_rankAll_21 : decode gb_Model_rankAll 21 = .ok (.aload_n 0, 1) := by decide +kernel
theorem gd_Model_rankAll_22 : decode gb_Model_rankAll 22 = .ok (.lload_n 1, 1) := by decide +kernel
theorem gd_Model_rankAll_23 : decode gb_Model_rankAll 23 = .ok (.invokevirtual 250, 3) := by decide +kernel
theorem gd_Model_rankAll_26 : decode gb_Model_rankAll 26 = .ok (.istore 4, 2) := by decide +kernel
theorem gd_Model_rankAll_28 : decode gb_Model_rankAll 28 = .ok (.iload 4, 2) := by decide +kernel
theorem gd_Model_rankAll_30 : decode gb_Model_rankAll 30 = .ok (.ifCond .lt 10, 3) := by decide +kernel
theorem gd_Model_rankAll_33 : decode gb_Model_rankAll 33 = .ok (.aload_n 0, 1) := by decide +kernel
theorem gd_Model_rankAll_34 : decode gb_Model_rankAll 34 = .ok (.iload 4, 2) := by decide +kernel
theorem gd_Model_rankAll_36 : decode gb_Model_rankAll 36 = .ok (.lload_n 1, 1) := by decide +kernel
theorem gd_Model_rankAll_37 : decode gb_Model_rankAll 37 = .ok (.invokevirtual 254, 3) := by decide +kernel
theorem gd_Model_rankAll_40 : decode gb_Model_rankAll 40 = .ok (.aload_n 0, 1) := by decide +kernel
theorem gd_Model_rankAll_41 : decode gb_Model_rankAll 41 = .ok (.getfield 89, 3) := by decide +kernel
theorem gd_Model_rankAll_44 : decode gb_Model_rankAll 44 = .ok (.iload_n 3, 1) := by decide +kernel
theorem gd_Model_rankAll_45 : decode gb_Model_rankAll 45 = .ok (.aload_n 0, 1) := by decide +kernel
theorem gd_Model_rankAll_46 : decode gb_Model_rankAll 46 = .ok (.getfield 89, 3) := by decide +kernel
theorem gd_Model_rankAll_49 : decode gb_Model_rankAll 49 = .ok (.iload_n 3, 1) := by decide +kernel
theorem gd_Model_rankAll_50 : decode gb_Model_rankAll 50 = .ok (.iaload, 1) := by decide +kernel
theorem gd_Model_rankAll_51 : decode gb_Model_rankAll 51 = .ok (.aload_n 0, 1) := by decide +kernel
theorem gd_Model_rankAll_52 : decode gb_Model_rankAll 52 = .ok (.getfield 239, 3) := by decide +kernel
theorem gd_Model_rankAll_55 : decode gb_Model_rankAll 55 = .ok (.if_icmp .le 12, 3) := by decide +kernel
theorem gd_Model_rankAll_58 : decode gb_Model_rankAll 58 = .ok (.aload_n 0, 1) := by decide +kernel
theorem gd_Model_rankAll_59 : decode gb_Model_rankAll 59 = .ok (.getfield 89, 3) := by decide +kernel
theorem gd_Model_rankAll_62 : decode gb_Model_rankAll 62 = .ok (.iload_n 3, 1) := by decide +kernel
theorem gd_Model_rankAll_63 : decode gb_Model_rankAll 63 = .ok (.iaload, 1) := by decide +kernel
theorem gd_Model_rankAll_64 : decode gb_Model_rankAll 64 = .ok (.goto 7, 3) := by decide +kernel
theorem gd_Model_rankAll_67 : decode gb_Model_rankAll 67 = .ok (.aload_n 0, 1) := by decide +kernel
theorem gd_Model_rankAll_68 : decode gb_Model_rankAll 68 = .ok (.getfield 239, 3) := by decide +kernel
theorem gd_Model_rankAll_71 : decode gb_Model_rankAll 71 = .ok (.iastore, 1) := by decide +kernel
theorem gd_Model_rankAll_72 : decode gb_Model_rankAll 72 = .ok (.aload_n 0, 1) := by decide +kernel
theorem gd_Model_rankAll_73 : decode gb_Model_rankAll 73 = .ok (.invokevirtual 257, 3) := by decide +kernel
theorem gd_Model_rankAll_76 : decode gb_Model_rankAll 76 = .ok (.aload_n 0, 1) := by decide +kernel
theorem gd_Model_rankAll_77 : decode gb_Model_rankAll 77 = .ok (.lload_n 1, 1) := by decide +kernel
theorem gd_Model_rankAll_78 : decode gb_Model_rankAll 78 = .ok (.invokevirtual 250, 3) := by decide +kernel
theorem gd_Model_rankAll_81 : decode gb_Model_rankAll 81 = .ok (.ifCond .lt 12, 3) := by decide +kernel
theorem gd_Model_rankAll_84 : decode gb_Model_rankAll 84 = .ok (.aload_n 0, 1) := by decide +kernel
theorem gd_Model_rankAll_85 : decode gb_Model_rankAll 85 = .ok (.getfield 239, 3) := by decide +kernel
theorem gd_Model_rankAll_88 : decode gb_Model_rankAll 88 = .ok (.iconst 1, 1) := by decide +kernel
theorem gd_Model_rankAll_89 : decode gb_Model_rankAll 89 = .ok (.iadd, 1) := by decide +kernel
theorem gd_Model_rankAll_90 : decode gb_Model_rankAll 90 = .ok (.goto 7, 3) := by decide +kernel
theorem gd_Model_rankAll_93 : decode gb_Model_rankAll 93 = .ok (.aload_n 0, 1) := by decide +kernel
theorem gd_Model_rankAll_94 : decode gb_Model_rankAll 94 = .ok (.getfield 239, 3) := by decide +kernel
theorem gd_Model_rankAll_97 : decode gb_Model_rankAll 97 = .ok (.istore 5, 2) := by decide +kernel
theorem gd_Model_rankAll_99 : decode gb_Model_rankAll 99 = .ok (.aload_n 0, 1) := by decide +kernel
theorem gd_Model_rankAll_100 : decode gb_Model_rankAll 100 = .ok (.getfield 92, 3) := by decide +kernel
theorem gd_Model_rankAll_103 : decode gb_Model_rankAll 103 = .ok (.iload_n 3, 1) := by decide +kernel
theorem gd_Model_rankAll_104 : decode gb_Model_rankAll 104 = .ok (.aload_n 0, 1) := by decide +kernel
theorem gd_Model_rankAll_105 : decode gb_Model_rankAll 105 = .ok (.getfield 92, 3) := by decide +kernel
theorem gd_Model_rankAll_108 : decode gb_Model_rankAll 108 = .ok (.iload_n 3, 1) := by decide +kernel
theorem gd_Model_rankAll_109 : decode gb_Model_rankAll 109 = .ok (.iaload, 1) := by decide +kernel
theorem gd_Model_rankAll_110 : decode gb_Model_rankAll 110 = .ok (.iload 5, 2) := by decide +kernel
theorem gd_Model_rankAll_112 : decode gb_Model_rankAll 112 = .ok (.if_icmp .le 12, 3) := by decide +kernel
theorem gd_Model_rankAll_115 : decode gb_Model_rankAll 115 = .ok (.aload_n 0, 1) := by decide +kernel
theorem gd_Model_rankAll_116 : decode gb_Model_rankAll 116 = .ok (.getfield 92, 3) := by decide +kernel
theorem gd_Model_rankAll_119 : decode gb_Model_rankAll 119 = .ok (.iload_n 3, 1) := by decide +kernel
theorem gd_Model_rankAll_120 : decode gb_Model_rankAll 120 = .ok (.iaload, 1) := by decide +kernel
theorem gd_Model_rankAll_121 : decode gb_Model_rankAll 121 = .ok (.goto 5, 3) := by decide +kernel
theorem gd_Model_rankAll_124 : decode gb_Model_rankAll 124 = .ok (.iload 5, 2) := by decide +kernel
theorem gd_Model_rankAll_126 : decode gb_Model_rankAll 126 = .ok (.iastore, 1) := by decide +kernel
theorem gd_Model_rankAll_127 : decode gb_Model_rankAll 127 = .ok (.iinc 3 1, 3) := by decide +kernel
theorem gd_Model_rankAll_130 : decode gb_Model_rankAll 130 = .ok (.goto (-123), 3) := by decide +kernel
theorem gd_Model_rankAll_133 : decode gb_Model_rankAll 133 = .ok (.return_, 1) := by decide +kernel
def gf_Model_rankAll_b126 (F : Nat) (z : gw_Sh) (rc_7 : gw_St → Nat → Int64 → Int32 → Option gw_St) (u : gw_St) (t0 : Nat) (y1 : Int64) (x3 : Int32) (st0 : Nat) (sx1 : Int32) (sx2 : Int32) : Option gw_St :=
  if (sx1 < 0 ∨ z.2.2 st0 ≤ (sx1).toNatClampNeg) then none else gf_nm (gw_wi u st0 (sx1).toNatClampNeg sx2) fun u2 => gf_nm (x3 + 1) fun a4 => rc_7 u2 t0 y1 a4
def gf_Model_rankAll_b97 (F : Nat) (z : gw_Sh) (rc_7 : gw_St → Nat → Int64 → Int32 → Option gw_St) (u : gw_St) (t0 : Nat) (y1 : Int64) (x3 : Int32) (sx0 : Int32) : Option gw_St :=
  gf_nn (u.2.2 t0 44) fun q6 => gf_nn (u.2.2 t0 44) fun q8 => if (x3 < 0 ∨ z.2.2 q8 ≤ (x3).toNatClampNeg) then none else if (u.1 q8 (x3).toNatClampNeg) ≤ sx0 then (gf_Model_rankAll_b126 F z rc_7 u t0 y1 x3 q6 x3 sx0) else (gf_nn (u.2.2 t0 44) fun q12 => if (x3 < 0 ∨ z.2.2 q12 ≤ (x3).toNatClampNeg) then none else gf_Model_rankAll_b126 F z rc_7 u t0 y1 x3 q6 x3 (u.1 q12 (x3).toNatClampNeg))
def gf_Model_rankAll_b71 (F : Nat) (z : gw_Sh) (rc_7 : gw_St → Nat → Int64 → Int32 → Option gw_St) (u : gw_St) (t0 : Nat) (y1 : Int64) (x3 : Int32) (st0 : Nat) (sx1 : Int32) (sx2 : Int32) : Option gw_St :=
  if (sx1 < 0 ∨ z.2.2 st0 ≤ (sx1).toNatClampNeg) then none else gf_nm (gw_wi u st0 (sx1).toNatClampNeg sx2) fun u16 => (gf_Model_crankLine F z u16 t0).bind fun u18 => gf_cl (gf_Model_reduce F z u18 t0 y1) fun a22 u20 => if a22 < 0 then (gf_Model_rankAll_b97 F z rc_7 u20 t0 y1 x3 (u20.1 t0 41)) else (gf_Model_rankAll_b97 F z rc_7 u20 t0 y1 x3 ((u20.1 t0 41) + (1 : Int32)))
def gf_Model_rankAll_b40 (F : Nat) (z : gw_Sh) (rc_7 : gw_St → Nat → Int64 → Int32 → Option gw_St) (u : gw_St) (t0 : Nat) (y1 : Int64) (x3 : Int32) : Option gw_St :=
  gf_nn (u.2.2 t0 43) fun q24 => gf_nn (u.2.2 t0 43) fun q26 => if (x3 < 0 ∨ z.2.2 q26 ≤ (x3).toNatClampNeg) then none else if (u.1 q26 (x3).toNatClampNeg) ≤ (u.1 t0 41) then (gf_Model_rankAll_b71 F z rc_7 u t0 y1 x3 q24 x3 (u.1 t0 41)) else (gf_nn (u.2.2 t0 43) fun q30 => if (x3 < 0 ∨ z.2.2 q30 ≤ (x3).toNatClampNeg) then none else gf_Model_rankAll_b71 F z rc_7 u t0 y1 x3 q24 x3 (u.1 q30 (x3).toNatClampNeg))
def gf_Model_rankAll_S7 (F : Nat) (z : gw_Sh)  (rc_7 : gw_St → Nat → Int64 → Int32 → Option gw_St) (u : gw_St) (t0 : Nat) (y1 : Int64) (x3 : Int32) : Option gw_St :=
  if (u.1 t0 19) ≤ x3 then (some u) else ((gf_Model_lineOf F z u t0 x3 y1).bind fun u34 => gf_cl (gf_Model_reduce F z u34 t0 y1) fun a38 u36 => if a38 < 0 then (gf_Model_rankAll_b40 F z rc_7 u36 t0 y1 x3) else ((gf_Model_keep F z u36 t0 a38 y1).bind fun u40 => gf_Model_rankAll_b40 F z rc_7 u40 t0 y1 x3))
def gf_Model_rankAll_L7 (F : Nat) (z : gw_Sh)  : Nat → gw_St → Nat → Int64 → Int32 → Option gw_St
  | 0 => fun _ _ _ _ => none
  | n + 1 => fun u t0 y1 x3 => gf_Model_rankAll_S7 F z  (gf_Model_rankAll_L7 F z  n) u t0 y1 x3
def gf_Model_rankAll_b0 (F : Nat) (z : gw_Sh)  (u : gw_St) (t0 : Nat) (y1 : Int64) : Option gw_St :=
  gf_nm (gw_wi u t0 41 (0 : Int32)) fun u42 => gf_Model_rankAll_L7 F z  F u42 t0 y1 0
def gf_Model_rankAll (F : Nat) (z : gw_Sh) (u : gw_St) (t0 : Nat) (y1 : Int64) : Option gw_St := gf_Model_rankAll_b0 F z  u t0 y1
set_option maxHeartbeats 4000000 in
set_option maxRecDepth 20000 in
theorem gx_Model_rankAll_b126 {p : Program} {l : Launch} {e : Env} {s : State} {m : MethodId} {args : Array Value} {below : List Frame} {meth : Method} {c : Code} {D : va_G} {cA : Nat → ClassId} {hs : Nat → Nat} {z : gw_Sh} (F : Nat) {r0 : gw_St} (C : gw_Cx p s m args c gb_Model_rankAll 6 R_Model D cA) (hr : meth.sig.returnType = none) (hk : meth.locks = false) {rc_7 : gw_St → Nat → Int64 → Int32 → Option gw_St} (k_7 : ∀ (u : gw_St) (t0 : Nat) (y1 : Int64) (x3 : Int32) (H : Heap) (locs : List Loc) (ls : Array Slot), gw_ok z t0 9 → gw_Wx D cA hs z s u H locs → lv_has ls 6 [(0, .ref (hs t0)), (1, .long y1), (3, .int x3)] → rc_7 u t0 y1 x3 = some r0 → gw_Gv p l e gr_Model_rankAll s m args below meth c D cA hs z r0 H locs ls 7 []) (u : gw_St) (t0 : Nat) (y1 : Int64) (x3 : Int32) (st0 : Nat) (sx1 : Int32) (sx2 : Int32) (o_t0 : gw_ok z t0 9) (o_st0 : gw_ok z st0 10) {H : Heap} {locs : List Loc} {ls : Array Slot} (hW : gw_Wx D cA hs z s u H locs) (hl : lv_has ls 6 [(0, .ref (hs t0)), (1, .long y1), (3, .int x3)]) (h : gf_Model_rankAll_b126 F z rc_7  u t0 y1 x3 st0 sx1 sx2 = some r0) : gw_Gv p l e gr_Model_rankAll s m args below meth c D cA hs z r0 H locs ls 126 [.int sx2, .int sx1, .ref (hs st0)] := by
  obtain ⟨hx, hb, hml, hown, hts, hK⟩ := id C
  unfold gf_Model_rankAll_b126 at h
  obtain ⟨g1, h⟩ := gf_if_ok h
  refine gw_iast C hW o_st0 g1 gd_Model_rankAll_126 (fun u2 H locs e3 hW => ?_)
  have h := gf_nm_ok e3 h
  obtain ⟨a4, e5⟩ : ∃ y : Int32, y = x3 + 1 := ⟨_, rfl⟩
  have h := gf_nm_ok e5 h
  refine lv_iinc (v := a4) (lv' := [(3, .int a4), (0, .ref (hs t0)), (1, .long y1)]) hx hb gd_Model_rankAll_127 hl (k := 2) rfl (by rw [e5]; rfl) (by decide) rfl (fun ls hl => ?_)
  refine lv_goto (tgt := 7) hx hb gd_Model_rankAll_130 (by decide) ?_
  exact k_7 u2 t0 y1 a4 _ _ _ o_t0 hW (lv_sub hl [1, 2, 0] rfl) h

set_option maxHeartbeats 4000000 in
set_option maxRecDepth 20000 in
theorem gx_Model_rankAll_b97 {p : Program} {l : Launch} {e : Env} {s : State} {m : MethodId} {args : Array Value} {below : List Frame} {meth : Method} {c : Code} {D : va_G} {cA : Nat → ClassId} {hs : Nat → Nat} {z : gw_Sh} (F : Nat) {r0 : gw_St} (C : gw_Cx p s m args c gb_Model_rankAll 6 R_Model D cA) (hr : meth.sig.returnType = none) (hk : meth.locks = false) {rc_7 : gw_St → Nat → Int64 → Int32 → Option gw_St} (k_7 : ∀ (u : gw_St) (t0 : Nat) (y1 : Int64) (x3 : Int32) (H : Heap) (locs : List Loc) (ls : Array Slot), gw_ok z t0 9 → gw_Wx D cA hs z s u H locs → lv_has ls 6 [(0, .ref (hs t0)), (1, .long y1), (3, .int x3)] → rc_7 u t0 y1 x3 = some r0 → gw_Gv p l e gr_Model_rankAll s m args below meth c D cA hs z r0 H locs ls 7 []) (u : gw_St) (t0 : Nat) (y1 : Int64) (x3 : Int32) (sx0 : Int32) (o_t0 : gw_ok z t0 9) {H : Heap} {locs : List Loc} {ls : Array Slot} (hW : gw_Wx D cA hs z s u H locs) (hl : lv_has ls 6 [(0, .ref (hs t0)), (1, .long y1), (3, .int x3)]) (h : gf_Model_rankAll_b97 F z rc_7  u t0 y1 x3 sx0 = some r0) : gw_Gv p l e gr_Model_rankAll s m args below meth c D cA hs z r0 H locs ls 97 [.int sx0] := by
  obtain ⟨hx, hb, hml, hown, hts, hK⟩ := id C
  unfold gf_Model_rankAll_b97 at h
  refine lv_istore (lv' := [(5, .int sx0), (0, .ref (hs t0)), (1, .long y1), (3, .int x3)]) hx hb gd_Model_rankAll_97 hl (by decide) rfl (fun ls hl => ?_)
  refine lv_aload_n hx hb gd_Model_rankAll_99 rfl (lv_at hl 1 rfl) ?_
  obtain ⟨q6, e7, h⟩ := gf_nn_ok h
  refine gw_getr (k := 44) (ty := 10) (ref := R_Model) C hW o_t0 (by decide) rfl gi_Model rfl (by decide) rfl rfl gk_506 gd_Model_rankAll_100 e7 ?_
  have o_q6 := hW.ref (d := 10) o_t0 e7 rfl
  refine lv_iload_n hx hb gd_Model_rankAll_103 rfl (lv_at hl 3 rfl) ?_
  refine lv_aload_n hx hb gd_Model_rankAll_104 rfl (lv_at hl 1 rfl) ?_
  obtain ⟨q8, e9, h⟩ := gf_nn_ok h
  refine gw_getr (k := 44) (ty := 10) (ref := R_Model) C hW o_t0 (by decide) rfl gi_Model rfl (by decide) rfl rfl gk_506 gd_Model_rankAll_105 e9 ?_
  have o_q8 := hW.ref (d := 10) o_t0 e9 rfl
  refine lv_iload_n hx hb gd_Model_rankAll_108 rfl (lv_at hl 3 rfl) ?_
  obtain ⟨g10, h⟩ := gf_if_ok h
  refine gw_iald C hW o_q8 g10 gd_Model_rankAll_109 ?_
  refine lv_iload hx hb gd_Model_rankAll_110 (lv_at hl 0 rfl) ?_
  refine lv_icmp_le (tgt := 124) hx hb gd_Model_rankAll_112 (by decide) (fun c11 => ?_) (fun c11 => ?_)
  · have h := gf_t c11 h
    refine lv_iload hx hb gd_Model_rankAll_124 (lv_at hl 0 rfl) ?_
    exact gx_Model_rankAll_b126 F C hr hk k_7 u t0 y1 x3 q6 x3 sx0 o_t0 o_q6 hW (lv_sub hl [1, 2, 3] rfl) h
  · have h := gf_f c11 h
    refine lv_aload_n hx hb gd_Model_rankAll_115 rfl (lv_at hl 1 rfl) ?_
    obtain ⟨q12, e13, h⟩ := gf_nn_ok h
    refine gw_getr (k := 44) (ty := 10) (ref := R_Model) C hW o_t0 (by decide) rfl gi_Model rfl (by decide) rfl rfl gk_506 gd_Model_rankAll_116 e13 ?_
    have o_q12 := hW.ref (d := 10) o_t0 e13 rfl
    refine lv_iload_n hx hb gd_Model_rankAll_119 rfl (lv_at hl 3 rfl) ?_
    obtain ⟨g14, h⟩ := gf_if_ok h
    refine gw_iald C hW o_q12 g14 gd_Model_rankAll_120 ?_
    refine lv_goto (tgt := 126) hx hb gd_Model_rankAll_121 (by decide) ?_
    exact gx_Model_rankAll_b126 F C hr hk k_7 u t0 y1 x3 q6 x3 (u.1 q12 (x3).toNatClampNeg) o_t0 o_q6 hW (lv_sub hl [1, 2, 3] rfl) h

set_option maxHeartbeats 4000000 in
set_option maxRecDepth 20000 in
theorem gx_Model_rankAll_b71 {p : Program} {l : Launch} {e : Env} {s : State} {m : MethodId} {args : Array Value} {below : List Frame} {meth : Method} {c : Code} {D : va_G} {cA : Nat → ClassId} {hs : Nat → Nat} {z : gw_Sh} (F : Nat) {r0 : gw_St} (C : gw_Cx p s m args c gb_Model_rankAll 6 R_Model D cA) (hr : meth.sig.returnType = none) (hk : meth.locks = false) {rc_7 : gw_St → Nat → Int64 → Int32 → Option gw_St} (k_7 : ∀ (u : gw_St) (t0 : Nat) (y1 : Int64) (x3 : Int32) (H : Heap) (locs : List Loc) (ls : Array Slot), gw_ok z t0 9 → gw_Wx D cA hs z s u H locs → lv_has ls 6 [(0, .ref (hs t0)), (1, .long y1), (3, .int x3)] → rc_7 u t0 y1 x3 = some r0 → gw_Gv p l e gr_Model_rankAll s m args below meth c D cA hs z r0 H locs ls 7 []) (u : gw_St) (t0 : Nat) (y1 : Int64) (x3 : Int32) (st0 : Nat) (sx1 : Int32) (sx2 : Int32) (o_t0 : gw_ok z t0 9) (o_st0 : gw_ok z st0 10) {H : Heap} {locs : List Loc} {ls : Array Slot} (hW : gw_Wx D cA hs z s u H locs) (hl : lv_has ls 6 [(0, .ref (hs t0)), (1, .long y1), (3, .int x3)]) (h : gf_Model_rankAll_b71 F z rc_7  u t0 y1 x3 st0 sx1 sx2 = some r0) : gw_Gv p l e gr_Model_rankAll s m args below meth c D cA hs z r0 H locs ls 71 [.int sx2, .int sx1, .ref (hs st0)] := by
  obtain ⟨hx, hb, hml, hown, hts, hK⟩ := id C
  unfold gf_Model_rankAll_b71 at h
  obtain ⟨g15, h⟩ := gf_if_ok h
  refine gw_iast C hW o_st0 g15 gd_Model_rankAll_71 (fun u16 H locs e17 hW => ?_)
  have h := gf_nm_ok e17 h
  refine lv_aload_n hx hb gd_Model_rankAll_72 rfl (lv_at hl 0 rfl) ?_
  obtain ⟨u18, d19, h⟩ := gf_bd_ok h
  refine gw_callVv (K := R_Model) (As := []) (rest := []) C hW (fun _ h => Or.inr h) hl.1 gm_Model_crankLine (gc_Model_crankLine l F o_t0 d19 _) gk_507 gk_508 gk_509 o_t0 (by decide) rfl rfl rfl ⟨Nat.le_of_ble_eq_true rfl, Nat.le_of_ble_eq_true rfl⟩ ⟨Nat.zero_le _, Nat.zero_le _⟩ rfl rfl (Nat.le_of_ble_eq_true rfl) gd_Model_rankAll_73 (fun H locs hW => ?_)
  refine lv_aload_n hx hb gd_Model_rankAll_76 rfl (lv_at hl 0 rfl) ?_
  refine lv_lload_n hx hb gd_Model_rankAll_77 rfl (lv_at hl 1 rfl) ?_
  obtain ⟨a22, u20, d21, h⟩ := gf_cl_ok h
  refine gw_callVi (K := R_Model) (As := [.long y1]) (rest := []) C hW (fun _ h => Or.inr h) hl.1 gm_Model_reduce (gc_Model_reduce l F o_t0 d21 _) gk_510 gk_511 gk_512 o_t0 (by decide) rfl rfl rfl ⟨Nat.le_of_ble_eq_true rfl, Nat.le_of_ble_eq_true rfl⟩ ⟨Nat.zero_le _, Nat.zero_le _⟩ rfl rfl (Nat.le_of_ble_eq_true rfl) gd_Model_rankAll_78 (fun H locs hW => ?_)
  refine lv_if_lt (tgt := 93) hx hb gd_Model_rankAll_81 (by decide) (fun c23 => ?_) (fun c23 => ?_)
  · have h := gf_t c23 h
    refine lv_aload_n hx hb gd_Model_rankAll_93 rfl (lv_at hl 0 rfl) ?_
    refine gw_geti (k := 41) (ref := R_Model) C hW o_t0 (by decide) rfl gi_Model rfl (by decide) rfl rfl gk_499 gd_Model_rankAll_94 ?_
    exact gx_Model_rankAll_b97 F C hr hk k_7 u20 t0 y1 x3 (u20.1 t0 41) o_t0 hW (lv_sub hl [0, 1, 2] rfl) h
  · have h := gf_f c23 h
    refine lv_aload_n hx hb gd_Model_rankAll_84 rfl (lv_at hl 0 rfl) ?_
    refine gw_geti (k := 41) (ref := R_Model) C hW o_t0 (by decide) rfl gi_Model rfl (by decide) rfl rfl gk_499 gd_Model_rankAll_85 ?_
    refine lv_iconst (v := 1) hx hb gd_Model_rankAll_88 (by decide) ?_
    refine lv_iadd hx hb gd_Model_rankAll_89 ?_
    refine lv_goto (tgt := 97) hx hb gd_Model_rankAll_90 (by decide) ?_
    exact gx_Model_rankAll_b97 F C hr hk k_7 u20 t0 y1 x3 ((u20.1 t0 41) + (1 : Int32)) o_t0 hW (lv_sub hl [0, 1, 2] rfl) h

set_option maxHeartbeats 4000000 in
set_option maxRecDepth 20000 in
theorem gx_Model_rankAll_b40 {p : Program} {l : Launch} {e : Env} {s : State} {m : MethodId} {args : Array Value} {below : List Frame} {meth : Method} {c : Code} {D : va_G} {cA : Nat → ClassId} {hs : Nat → Nat} {z : gw_Sh} (F : Nat) {r0 : gw_St} (C : gw_Cx p s m args c gb_Model_rankAll 6 R_Model D cA) (hr : meth.sig.returnType = none) (hk : meth.locks = false) {rc_7 : gw_St → Nat → Int64 → Int32 → Option gw_St} (k_7 : ∀ (u : gw_St) (t0 : Nat) (y1 : Int64) (x3 : Int32) (H : Heap) (locs : List Loc) (ls : Array Slot), gw_ok z t0 9 → gw_Wx D cA hs z s u H locs → lv_has ls 6 [(0, .ref (hs t0)), (1, .long y1), (3, .int x3)] → rc_7 u t0 y1 x3 = some r0 → gw_Gv p l e gr_Model_rankAll s m args below meth c D cA hs z r0 H locs ls 7 []) (u : gw_St) (t0 : Nat) (y1 : Int64) (x3 : Int32) (o_t0 : gw_ok z t0 9) {H : Heap} {locs : List Loc} {ls : Array Slot} (hW : gw_Wx D cA hs z s u H locs) (hl : lv_has ls 6 [(0, .ref (hs t0)), (1, .long y1), (3, .int x3)]) (h : gf_Model_rankAll_b40 F z rc_7  u t0 y1 x3 = some r0) : gw_Gv p l e gr_Model_rankAll s m args below meth c D cA hs z r0 H locs ls 40 [] := by
  obtain ⟨hx, hb, hml, hown, hts, hK⟩ := id C
  unfold gf_Model_rankAll_b40 at h
  refine lv_aload_n hx hb gd_Model_rankAll_40 rfl (lv_at hl 0 rfl) ?_
  obtain ⟨q24, e25, h⟩ := gf_nn_ok h
  refine gw_getr (k := 43) (ty := 10) (ref := R_Model) C hW o_t0 (by decide) rfl gi_Model rfl (by decide) rfl rfl gk_513 gd_Model_rankAll_41 e25 ?_
  have o_q24 := hW.ref (d := 10) o_t0 e25 rfl
  refine lv_iload_n hx hb gd_Model_rankAll_44 rfl (lv_at hl 2 rfl) ?_
  refine lv_aload_n hx hb gd_Model_rankAll_45 rfl (lv_at hl 0 rfl) ?_
  obtain ⟨q26, e27, h⟩ := gf_nn_ok h
  refine gw_getr (k := 43) (ty := 10) (ref := R_Model) C hW o_t0 (by decide) rfl gi_Model rfl (by decide) rfl rfl gk_513 gd_Model_rankAll_46 e27 ?_
  have o_q26 := hW.ref (d := 10) o_t0 e27 rfl
  refine lv_iload_n hx hb gd_Model_rankAll_49 rfl (lv_at hl 2 rfl) ?_
  obtain ⟨g28, h⟩ := gf_if_ok h
  refine gw_iald C hW o_q26 g28 gd_Model_rankAll_50 ?_
  refine lv_aload_n hx hb gd_Model_rankAll_51 rfl (lv_at hl 0 rfl) ?_
  refine gw_geti (k := 41) (ref := R_Model) C hW o_t0 (by decide) rfl gi_Model rfl (by decide) rfl rfl gk_499 gd_Model_rankAll_52 ?_
  refine lv_icmp_le (tgt := 67) hx hb gd_Model_rankAll_55 (by decide) (fun c29 => ?_) (fun c29 => ?_)
  · have h := gf_t c29 h
    refine lv_aload_n hx hb gd_Model_rankAll_67 rfl (lv_at hl 0 rfl) ?_
    refine gw_geti (k := 41) (ref := R_Model) C hW o_t0 (by decide) rfl gi_Model rfl (by decide) rfl rfl gk_499 gd_Model_rankAll_68 ?_
    exact gx_Model_rankAll_b71 F C hr hk k_7 u t0 y1 x3 q24 x3 (u.1 t0 41) o_t0 o_q24 hW (lv_sub hl [0, 1, 2] rfl) h
  · have h := gf_f c29 h
    refine lv_aload_n hx hb gd_Model_rankAll_58 rfl (lv_at hl 0 rfl) ?_
    obtain ⟨q30, e31, h⟩ := gf_nn_ok h
    refine gw_getr (k := 43) (ty := 10) (ref := R_Model) C hW o_t0 (by decide) rfl gi_Model rfl (by decide) rfl rfl gk_513 gd_Model_rankAll_59 e31 ?_
    have o_q30 := hW.ref (d := 10) o_t0 e31 rfl
    refine lv_iload_n hx hb gd_Model_rankAll_62 rfl (lv_at hl 2 rfl) ?_
    obtain ⟨g32, h⟩ := gf_if_ok h
    refine gw_iald C hW o_q30 g32 gd_Model_rankAll_63 ?_
    refine lv_goto (tgt := 71) hx hb gd_Model_rankAll_64 (by decide) ?_
    exact gx_Model_rankAll_b71 F C hr hk k_7 u t0 y1 x3 q24 x3 (u.1 q30 (x3).toNatClampNeg) o_t0 o_q24 hW (lv_sub hl [0, 1, 2] rfl) h

set_option maxHeartbeats 4000000 in
set_option maxRecDepth 20000 in
theorem gx_Model_rankAll_S7 {p : Program} {l : Launch} {e : Env} {s : State} {m : MethodId} {args : Array Value} {below : List Frame} {meth : Method} {c : Code} {D : va_G} {cA : Nat → ClassId} {hs : Nat → Nat} {z : gw_Sh} (F : Nat) {r0 : gw_St} (C : gw_Cx p s m args c gb_Model_rankAll 6 R_Model D cA) (hr : meth.sig.returnType = none) (hk : meth.locks = false) {rc_7 : gw_St → Nat → Int64 → Int32 → Option gw_St} (k_7 : ∀ (u : gw_St) (t0 : Nat) (y1 : Int64) (x3 : Int32) (H : Heap) (locs : List Loc) (ls : Array Slot), gw_ok z t0 9 → gw_Wx D cA hs z s u H locs → lv_has ls 6 [(0, .ref (hs t0)), (1, .long y1), (3, .int x3)] → rc_7 u t0 y1 x3 = some r0 → gw_Gv p l e gr_Model_rankAll s m args below meth c D cA hs z r0 H locs ls 7 []) (u : gw_St) (t0 : Nat) (y1 : Int64) (x3 : Int32) (o_t0 : gw_ok z t0 9) {H : Heap} {locs : List Loc} {ls : Array Slot} (hW : gw_Wx D cA hs z s u H locs) (hl : lv_has ls 6 [(0, .ref (hs t0)), (1, .long y1), (3, .int x3)]) (h : gf_Model_rankAll_S7 F z  rc_7 u t0 y1 x3 = some r0) : gw_Gv p l e gr_Model_rankAll s m args below meth c D cA hs z r0 H locs ls 7 [] := by
  obtain ⟨hx, hb, hml, hown, hts, hK⟩ := id C
  unfold gf_Model_rankAll_S7 at h
  refine lv_iload_n hx hb gd_Model_rankAll_7 rfl (lv_at hl 2 rfl) ?_
  refine lv_aload_n hx hb gd_Model_rankAll_8 rfl (lv_at hl 0 rfl) ?_
  refine gw_geti (k := 19) (ref := R_Model) C hW o_t0 (by decide) rfl gi_Model rfl (by decide) rfl rfl gk_466 gd_Model_rankAll_9 ?_
  refine lv_icmp_ge (tgt := 133) hx hb gd_Model_rankAll_12 (by decide) (fun c33 => ?_) (fun c33 => ?_)
  · have h := gf_t c33 h
    obtain rfl := Option.some.inj h
    exact gw_vret C hW hr hk gd_Model_rankAll_133
  · have h := gf_f c33 h
    refine lv_aload_n hx hb gd_Model_rankAll_15 rfl (lv_at hl 0 rfl) ?_
    refine lv_iload_n hx hb gd_Model_rankAll_16 rfl (lv_at hl 2 rfl) ?_
    refine lv_lload_n hx hb gd_Model_rankAll_17 rfl (lv_at hl 1 rfl) ?_
    obtain ⟨u34, d35, h⟩ := gf_bd_ok h
    refine gw_callVv (K := R_Model) (As := [.int x3, .long y1]) (rest := []) C hW (fun _ h => Or.inr h) hl.1 gm_Model_lineOf (gc_Model_lineOf l F o_t0 d35 _) gk_514 gk_515 gk_516 o_t0 (by decide) rfl rfl rfl ⟨Nat.le_of_ble_eq_true rfl, Nat.le_of_ble_eq_true rfl⟩ ⟨Nat.zero_le _, Nat.zero_le _⟩ rfl rfl (Nat.le_of_ble_eq_true rfl) gd_Model_rankAll_18 (fun H locs hW => ?_)
    refine lv_aload_n hx hb gd_Model_rankAll_21 rfl (lv_at hl 0 rfl) ?_
    refine lv_lload_n hx hb gd_Model_rankAll_22 rfl (lv_at hl 1 rfl) ?_
    obtain ⟨a38, u36, d37, h⟩ := gf_cl_ok h
    refine gw_callVi (K := R_Model) (As := [.long y1]) (rest := []) C hW (fun _ h => Or.inr h) hl.1 gm_Model_reduce (gc_Model_reduce l F o_t0 d37 _) gk_510 gk_511 gk_512 o_t0 (by decide) rfl rfl rfl ⟨Nat.le_of_ble_eq_true rfl, Nat.le_of_ble_eq_true rfl⟩ ⟨Nat.zero_le _, Nat.zero_le _⟩ rfl rfl (Nat.le_of_ble_eq_true rfl) gd_Model_rankAll_23 (fun H locs hW => ?_)
    refine lv_istore (lv' := [(4, .int a38), (0, .ref (hs t0)), (1, .long y1), (3, .int x3)]) hx hb gd_Model_rankAll_26 hl (by decide) rfl (fun ls hl => ?_)
    refine lv_iload hx hb gd_Model_rankAll_28 (lv_at hl 0 rfl) ?_
    refine lv_if_lt (tgt := 40) hx hb gd_Model_rankAll_30 (by decide) (fun c39 => ?_) (fun c39 => ?_)
    · have h := gf_t c39 h
      exact gx_Model_rankAll_b40 F C hr hk k_7 u36 t0 y1 x3 o_t0 hW (lv_sub hl [1, 2, 3] rfl) h
    · have h := gf_f c39 h
      refine lv_aload_n hx hb gd_Model_rankAll_33 rfl (lv_at hl 1 rfl) ?_
      refine lv_iload hx hb gd_Model_rankAll_34 (lv_at hl 0 rfl) ?_
      refine lv_lload_n hx hb gd_Model_rankAll_36 rfl (lv_at hl 2 rfl) ?_
      obtain ⟨u40, d41, h⟩ := gf_bd_ok h
      refine gw_callVv (K := R_Model) (As := [.int a38, .long y1]) (rest := []) C hW (fun _ h => Or.inr h) hl.1 gm_Model_keep (gc_Model_keep l F o_t0 d41 _) gk_517 gk_518 gk_519 o_t0 (by decide) rfl rfl rfl ⟨Nat.le_of_ble_eq_true rfl, Nat.le_of_ble_eq_true rfl⟩ ⟨Nat.zero_le _, Nat.zero_le _⟩ rfl rfl (Nat.le_of_ble_eq_true rfl) gd_Model_rankAll_37 (fun H locs hW => ?_)
      exact gx_Model_rankAll_b40 F C hr hk k_7 u40 t0 y1 x3 o_t0 hW (lv_sub hl [1, 2, 3] rfl) h
set_option maxHeartbeats 4000000 in
set_option maxRecDepth 20000 in
theorem gx_Model_rankAll_L7 {p : Program} {l : Launch} {e : Env} {s : State} {m : MethodId} {args : Array Value} {below : List Frame} {meth : Method} {c : Code} {D : va_G} {cA : Nat → ClassId} {hs : Nat → Nat} {z : gw_Sh} (F : Nat) {r0 : gw_St} (C : gw_Cx p s m args c gb_Model_rankAll 6 R_Model D cA) (hr : meth.sig.returnType = none) (hk : meth.locks = false) : ∀ (n : Nat), ∀ (u : gw_St) (t0 : Nat) (y1 : Int64) (x3 : Int32) (H : Heap) (locs : List Loc) (ls : Array Slot), gw_ok z t0 9 → gw_Wx D cA hs z s u H locs → lv_has ls 6 [(0, .ref (hs t0)), (1, .long y1), (3, .int x3)] → gf_Model_rankAll_L7 F z  n u t0 y1 x3 = some r0 → gw_Gv p l e gr_Model_rankAll s m args below meth c D cA hs z r0 H locs ls 7 [] := by
  intro n
  induction n with
  | zero =>
    intro u t0 y1 x3 H locs ls o_t0 hW hl h
    cases h
  | succ n ih =>
    intro u t0 y1 x3 H locs ls o_t0 hW hl h
    exact gx_Model_rankAll_S7 F C hr hk  ih u t0 y1 x3 o_t0 hW hl h

set_option maxHeartbeats 4000000 in
set_option maxRecDepth 20000 in
theorem gx_Model_rankAll_b0 {p : Program} {l : Launch} {e : Env} {s : State} {m : MethodId} {args : Array Value} {below : List Frame} {meth : Method} {c : Code} {D : va_G} {cA : Nat → ClassId} {hs : Nat → Nat} {z : gw_Sh} (F : Nat) {r0 : gw_St} (C : gw_Cx p s m args c gb_Model_rankAll 6 R_Model D cA) (hr : meth.sig.returnType = none) (hk : meth.locks = false) (u : gw_St) (t0 : Nat) (y1 : Int64) (o_t0 : gw_ok z t0 9) {H : Heap} {locs : List Loc} {ls : Array Slot} (hW : gw_Wx D cA hs z s u H locs) (hl : lv_has ls 6 [(0, .ref (hs t0)), (1, .long y1)]) (h : gf_Model_rankAll_b0 F z   u t0 y1 = some r0) : gw_Gv p l e gr_Model_rankAll s m args below meth c D cA hs z r0 H locs ls 0 [] := by
  obtain ⟨hx, hb, hml, hown, hts, hK⟩ := id C
  unfold gf_Model_rankAll_b0 at h
  refine lv_aload_n hx hb gd_Model_rankAll_0 rfl (lv_at hl 0 rfl) ?_
  refine lv_iconst (v := 0) hx hb gd_Model_rankAll_1 (by decide) ?_
  refine gw_puti (k := 41) (ref := R_Model) (fty := .int) C hW o_t0 (by decide) rfl gi_Model rfl (by decide) rfl rfl gk_499 tf_Model tf_Model_ok nm_Model rfl rfl rfl rfl gd_Model_rankAll_2 (fun u42 H locs e43 hW => ?_)
  have h := gf_nm_ok e43 h
  refine lv_iconst (v := 0) hx hb gd_Model_rankAll_5 (by decide) ?_
  refine lv_istore_n (lv' := [(3, .int 0), (0, .ref (hs t0)), (1, .long y1)]) hx hb gd_Model_rankAll_6 rfl hl (by decide) rfl (fun ls hl => ?_)
  exact gx_Model_rankAll_L7 F C hr hk  F u42 t0 y1 0 _ _ _ o_t0 hW (lv_sub hl [1, 2, 0] rfl) h

set_option maxRecDepth 20000 in
theorem gc_Model_rankAll (l : Launch) {D : va_G} {cA : Nat → ClassId} {hs : Nat → Nat} {z : gw_Sh} (F : Nat) {u : gw_St} {r0 : gw_St} {t0 : Nat} {y1 : Int64} (o_t0 : gw_ok z t0 9) (h : gf_Model_rankAll F z u t0 y1 = some r0) (sz : Nat) : gw_Mv l gy_Model_rankAll gb_Model_rankAll 6 none gr_Model_rankAll [.ref (hs t0), .long y1] D cA hs z u sz r0 := by
  refine gw_enter (by decide) (Nat.le_of_ble_eq_true rfl) ?_
  intro p e s m below meth c ls hsz C hW hr hk _ hl
  subst hsz
  exact gx_Model_rankAll_b0 F C hr hk u t0 y1 o_t0 hW (lv_sub hl [0, 1] rfl) h
-- GearDeskModel.speedsWith(II)V
theorem gk_521 : Cond.fieldLink R_Model 101 R_Model "rests" "[J" ∈ gt_T := gt_m6 (List.mem_of_getElem? (i := 99) rfl) rfl
theorem gk_522 : Cond.fieldLink R_Model 98 R_Model "isFree" "[Z" ∈ gt_T := gt_m6 (List.mem_of_getElem? (i := 98) rfl) rfl
theorem gk_523 : Cond.fieldLink R_Model 95 R_Model "isGood" "[Z" ∈ gt_T := gt_m6 (List.mem_of_getElem? (i := 97) rfl) rfl
theorem gk_524 : Cond.fieldLink R_Model 76 R_Model "primes" "[I" ∈ gt_T := gt_m6 (List.mem_of_getElem? (i := 90) rfl) rfl
def gy_Model_speedsWith : MethodName := ⟨R_Model, "speedsWith", "(II)V"⟩
abbrev gb_Model_speedsWith : ByteArray := prog_11_method_42_code
theorem gk_525 : Cond.code gy_Model_speedsWith gb_Model_speedsWith 7 none ∈ gt_T := gt_m7 (List.mem_of_getElem? (i := 128) rfl) rfl
def gr_Model_speedsWith : Room := gw_rm 3 124
theorem gm_Model_speedsWith : gw_Mth gy_Model_speedsWith gb_Model_speedsWith 7 none 2 := ⟨gk_525, gk_377, ⟨by decide +kernel, by decide +kernel⟩, by decide +kernel⟩
theorem gd_Model_speedsWith_0 : decode gb_Model_speedsWith 0 = .ok (.aload_n 0, 1) := by decide +kernel
theorem gd_Model_speedsWith_1 : decode gb_Model_speedsWith 1 = .ok (.getfield 76, 3) := by decide +kernel
theorem gd_Model_speedsWith_4 : decode gb_Model_speedsWith 4 = .ok (.iload_n 1, 1) := by decide +kernel
theorem gd_Model_speedsWith_5 : decode gb_Model_speedsWith 5 = .ok (.iaload, 1) := by decide +kernel
theorem gd_Model_speedsWith_6 : decode gb_Model_speedsWith 6 = .ok (.i2l, 1) := by decide +kernel
theorem gd_Model_speedsWith_7 : decode gb_Model_speedsWith 7 = .ok (.lstore_n 3, 1) := by decide +kernel
theorem gd_Model_speedsWith_8 : decode gb_Model_speedsWith 8 = .ok (.aload_n 0, 1) := by decide +kernel
theorem gd_Model_speedsWith_9 : decode gb_Model_speedsWith 9 = .ok (.iconst 0, 1) := by decide +kernel
theorem gd_Model_speedsWith_10 : decode gb_Model_speedsWith 10 = .ok (.putfield 239, 3) := by decide +kernel
theorem gd_Model_speedsWith_13 : decode gb_Model_speedsWith 13 = .ok (.aload_n 0, 1) := by decide +kernel
theorem gd_Model_speedsWith_14 : decode gb_Model_speedsWith 14 = .ok (.invokevirtual 257, 3) := by decide +kernel
theorem gd_Model_speedsWith_17 : decode gb_Model_speedsWith 17 = .ok (.aload_n 0, 1) := by decide +kernel
theorem gd_Model_speedsWith_18 : decode gb_Model_speedsWith 18 = .ok (.aload_n 0, 1) := by decide +kernel
theorem gd_Model_speedsWith_19 : decode gb_Model_speedsWith 19 = .ok (.getfield 20, 3) := by decide +kernel
theorem gd_Model_speedsWith_22 : decode gb_Model_speedsWith 22 = .ok (.lload_n 3, 1) := by decide +kernel
theorem gd_Model_speedsWith_23 : decode gb_Model_speedsWith 23 = .ok (.invokevirtual 254, 3) := by decide +kernel
theorem gd_Model_speedsWith_26 : decode gb_Model_speedsWith 26 = .ok (.iconst 0, 1) := by decide +kernel
theorem gd_Model_speedsWith_27 : decode gb_Model_speedsWith 27 = .ok (.istore 5, 2) := by decide +kernel
theorem gd_Model_speedsWith_29 : decode gb_Model_speedsWith 29 = .ok (.iload 5, 2) := by decide +kernel
theorem gd_Model_speedsWith_31 : decode gb_Model_speedsWith 31 = .ok (.aload_n 0, 1) := by decide +kernel
theorem gd_Model_speedsWith_32 : decode gb_Model_speedsWith 32 = .ok (.getfield 223, 3) := by decide +kernel
theorem gd_Model_speedsWith_35 : decode gb_Model_speedsWith 35 = .ok (.if_icmp .ge 35, 3) := by decide +kernel
theorem gd_Model_speedsWith_38 : decode gb_Model_speedsWith 38 = .ok (.aload_n 0, 1) := by decide +kernel
theorem gd_Model_speedsWith_39 : decode gb_Model_speedsWith 39 = .ok (.iload 5, 2) := by decide +kernel
theorem gd_Model_speedsWith_41 : decode gb_Model_speedsWith 41 = .ok (.lload_n 3, 1) := by decide +kernel
theorem gd_Model_speedsWith_42 : decode gb_Model_speedsWith 42 = .ok (.invokevirtual 246, 3) := by decide +kernel
theorem gd_Model_speedsWith_45 : decode gb_Model_speedsWith 45 = .ok (.aload_n 0, 1) := by decide +kernel
theorem gd_Model_speedsWith_46 : decode gb_Model_speedsWith 46 = .ok (.lload_n 3, 1) := by decide +kernel
theorem gd_Model_speedsWith_47 : decode gb_Model_speedsWith 47 = .ok (.invokevirtual 250, 3) := by decide +kernel
theorem gd_Model_speedsWith_50 : decode gb_Model_speedsWith 50 = .ok (.istore 6, 2) := by decide +kernel
theorem gd_Model_speedsWith_52 : decode gb_Model_speedsWith 52 = .ok (.iload 6, 2) := by decide +kernel
theorem gd_Model_speedsWith_54 : decode gb_Model_speedsWith 54 = .ok (.ifCond .lt 10, 3) := by decide +kernel
theorem gd_Model_speedsWith_57 : decode gb_Model_speedsWith 57 = .ok (.aload_n 0, 1) := by decide +kernel
theorem gd_Model_speedsWith_58 : decode gb_Model_speedsWith 58 = .ok (.iload 6, 2) := by decide +kernel
theorem gd_Model_speedsWith_60 : decode gb_Model_speedsWith 60 = .ok (.lload_n 3, 1) := by decide +kernel
theorem gd_Model_speedsWith_61 : decode gb_Model_speedsWith 61 = .ok (.invokevirtual 254, 3) := by decide +kernel
theorem gd_Model_speedsWith_64 : decode gb_Model_speedsWith 64 = .ok (.iinc 5 1, 3) := by decide +kernel
theorem gd_Model_speedsWith_67 : decode gb_Model_speedsWith 67 = .ok (.goto (-38), 3) := by decide +kernel
theorem gd_Model_speedsWith_70 : decode gb_Model_speedsWith 70 = .ok (.aload_n 0, 1) := by decide +kernel
theorem gd_Model_speedsWith_71 : decode gb_Model_speedsWith 71 = .ok (.getfield 95, 3) := by decide +kernel
theorem gd_Model_speedsWith_74 : decode gb_Model_speedsWith 74 = .ok (.iload_n 1, 1) := by decide +kernel
theorem gd_Model_speedsWith_75 : decode gb_Model_speedsWith 75 = .ok (.aload_n 0, 1) := by decide +kernel
theorem gd_Model_speedsWith_76 : decode gb_Model_speedsWith 76 = .ok (.getfield 239, 3) := by decide +kernel
theorem gd_Model_speedsWith_79 : decode gb_Model_speedsWith 79 = .ok (.iload_n 2, 1) := by decide +kernel
theorem gd_Model_speedsWith_80 : decode gb_Model_speedsWith 80 = .ok (.if_icmp .ne 7, 3) := by decide +kernel
theorem gd_Model_speedsWith_83 : decode gb_Model_speedsWith 83 = .ok (.iconst 1, 1) := by decide +kernel
theorem gd_Model_speedsWith_84 : decode gb_Model_speedsWith 84 = .ok (.goto 4, 3) := by decide +kernel
theorem gd_Model_speedsWith_87 : decode gb_Model_speedsWith 87 = .ok (.iconst 0, 1) := by decide +kernel
theorem gd_Model_speedsWith_88 : decode gb_Model_speedsWith 88 = .ok (.bastore, 1) := by decide +kernel
theorem gd_Model_speedsWith_89 : decode gb_Model_speedsWith 89 = .ok (.aload_n 0, 1) := by decide +kernel
theorem gd_Model_speedsWith_90 : decode gb_Model_speedsWith 90 = .ok (.getfield 95, 3) := by decide +kernel
theorem gd_Model_speedsWith_93 : decode gb_Model_speedsWith 93 = .ok (.iload_n 1, 1) := by decide +kernel
theorem gd_Model_speedsWith_94 : decode gb_Model_speedsWith 94 = .ok (.baload, 1) := by decide +kernel
theorem gd_Model_speedsWith_95 : decode gb_Model_speedsWith 95 = .ok (.ifCond .ne 4, 3) := by decide +kernel
theorem gd_Model_speedsWith_98 : decode gb_Model_speedsWith 98 = .ok (.return_, 1) := by decide +kernel
theorem gd_Model_speedsWith_99 : decode gb_Model_speedsWith 99 = .ok (.iconst 0, 1) := by decide +kernel
theorem gd_Model_speedsWith_100 : decode gb_Model_speedsWith 100 = .ok (.istore 5, 2) := by decide +kernel
theorem gd_Model_speedsWith_102 : decode gb_Model_speedsWith 102 = .ok (.iload 5, 2) := by decide +kernel
theorem gd_Model_speedsWith_104 : decode gb_Model_speedsWith 104 = .ok (.aload_n 0, 1) := by decide +kernel
theorem gd_Model_speedsWith_105 : decode gb_Model_speedsWith 105 = .ok (.getfield 217, 3) := by decide +kernel
theorem gd_Model_speedsWith_108 : decode gb_Model_speedsWith 108 = .ok (.if_icmp .ge 64, 3) := by decide +kernel
theorem gd_Model_speedsWith_111 : decode gb_Model_speedsWith 111 = .ok (.aload_n 0, 1) := by decide +kernel
theorem gd_Model_speedsWith_112 : decode gb_Model_speedsWith 112 = .ok (.invokevirtual 230, 3) := by decide +kernel
theorem gd_Model_speedsWith_115 : decode gb_Model_speedsWith 115 = .ok (.aload_n 0, 1) := by decide +kernel
theorem gd_Model_speedsWith_116 : decode gb_Model_speedsWith 116 = .ok (.getfield 86, 3) := by decide +kernel
theorem gd_Model_speedsWith_119 : decode gb_Model_speedsWith 119 = .ok (.iload 5, 2) := by decide +kernel
theorem gd_Model_speedsWith_121 : decode gb_Model_speedsWith 121 = .ok (.lconst 1, 1) := by decide +kernel
theorem gd_Model_speedsWith_122 : decode gb_Model_speedsWith 122 = .ok (.lastore, 1) := by decide +kernel
theorem gd_Model_speedsWith_123 : decode gb_Model_speedsWith 123 = .ok (.aload_n 0, 1) := by decide +kernel
theorem gd_Model_speedsWith_124 : decode gb_Model_speedsWith 124 = .ok (.lload_n 3, 1) := by decide +kernel
theorem gd_Model_speedsWith_125 : decode gb_Model_speedsWith 125 = .ok (.invokevirtual 250, 3) := by decide +kernel
theorem gd_Model_speedsWith_128 : decode gb_Model_speedsWith 128 = .ok (.istore 6, 2) := by decide +kernel
theorem gd_Model_speedsWith_130 : decode gb_Model_speedsWith 130 = .ok (.iload 6, 2) := by decide +kernel
theorem gd_Model_speedsWith_132 : decode gb_Model_speedsWith 132 = .ok (.ifCond .lt 11, 3) := by decide +kernel
theorem gd_Model_speedsWith_135 : decode gb_Model_speedsWith 135 = .ok (.aload_n 0, 1) := by decide +kernel
theorem gd_Model_speedsWith_136 : decode gb_Model_speedsWith 136 = .ok (.getfield 98, 3) := by decide +kernel
theorem gd_Model_speedsWith_139 : decode gb_Model_speedsWith 139 = .ok (.iload 5, 2) := by decide +kernel
theorem gd_Model_speedsWith_141 : decode gb_Model_speedsWith 141 = .ok (.iconst 1, 1) := by decide +kernel
theorem gd_Model_speedsWith_142 : decode gb_Model_speedsWith 142 = .ok (.bastore, 1) := by decide +kernel
theorem gd_Model_speedsWith_143 : decode gb_Model_speedsWith 143 = .ok (.aload_n 0, 1) := by decide +kernel
theorem gd_Model_speedsWith_144 : decode gb_Model_speedsWith 144 = .ok (.getfield 101, 3) := by decide +kernel
theorem gd_Model_speedsWith_147 : decode gb_Model_speedsWith 147 = .ok (.bipush 60, 2) := by decide +kernel
theorem gd_Model_speedsWith_149 : decode gb_Model_speedsWith 149 = .ok (.iload_n 1, 1) := by decide +kernel
theorem gd_Model_speedsWith_150 : decode gb_Model_speedsWith 150 = .ok (.imul, 1) := by decide +kernel
theorem gd_Model_speedsWith_151 : decode gb_Model_speedsWith 151 = .ok (.iload 5, 2) := by decide +kernel
theorem gd_Model_speedsWith_153 : decode gb_Model_speedsWith 153 = .ok (.iadd, 1) := by decide +kernel
theorem gd_Model_speedsWith_154 : decode gb_Model_speedsWith 154 = .ok (.lload_n 3, 1) := by decide +kernel
theorem gd_Model_speedsWith_155 : decode gb_Model_speedsWith 155 = .ok (.aload_n 0, 1) := by decide +kernel
theorem gd_Model_speedsWith_156 : decode gb_Model_speedsWith 156 = .ok (.getfield 86, 3) := by decide +kernel
theorem gd_Model_speedsWith_159 : decode gb_Model_speedsWith 159 = .ok (.bipush 60, 2) := by decide +kernel
theorem gd_Model_speedsWith_161 : decode gb_Model_speedsWith 161 = .ok (.laload, 1) := by decide +kernel
theorem gd_Model_speedsWith_162 : decode gb_Model_speedsWith 162 = .ok (.lsub, 1) := by decide +kernel
theorem gd_Model_speedsWith_163 : decode gb_Model_speedsWith 163 = .ok (.lload_n 3, 1) := by decide +kernel
theorem gd_Model_speedsWith_164 : decode gb_Model_speedsWith 164 = .ok (.lrem, 1) := by decide +kernel
theorem gd_Model_speedsWith_165 : decode gb_Model_speedsWith 165 = .ok (.lastore, 1) := by decide +kernel
theorem gd_Model_speedsWith_166 : decode gb_Model_speedsWith 166 = .ok (.iinc 5 1, 3) := by decide +kernel
theorem gd_Model_speedsWith_169 : decode gb_Model_speedsWith 169 = .ok (.goto (-67), 3) := by decide +kernel
theorem gd_Model_speedsWith_172 : decode gb_Model_speedsWith 172 = .ok (.return_, 1) := by decide +kernel
def gf_Model_speedsWith_b64 (F : Nat) (z : gw_Sh) (rc_29 : gw_St → Nat → Int32 → Int32 → Int64 → Int32 → Option gw_St) (u : gw_St) (t0 : Nat) (x1 : Int32) (x2 : Int32) (y3 : Int64) (x5 : Int32) : Option gw_St :=
  gf_nm (x5 + 1) fun a1 => rc_29 u t0 x1 x2 y3 a1
def gf_Model_speedsWith_b143 (F : Nat) (z : gw_Sh) (rc_102 : gw_St → Nat → Int32 → Int64 → Int32 → Option gw_St) (u : gw_St) (t0 : Nat) (x1 : Int32) (y3 : Int64) (x5 : Int32) : Option gw_St :=
  gf_nn (u.2.2 t0 47) fun q3 => gf_nn (u.2.2 t0 42) fun q5 => if ((60 : Int32) < 0 ∨ z.2.2 q5 ≤ ((60 : Int32)).toNatClampNeg) then none else if y3 = 0 then none else if ((((60 : Int32) * x1) + x5) < 0 ∨ z.2.2 q3 ≤ ((((60 : Int32) * x1) + x5)).toNatClampNeg) then none else gf_nm (gw_wl u q3 ((((60 : Int32) * x1) + x5)).toNatClampNeg ((y3 - (u.2.1 q5 ((60 : Int32)).toNatClampNeg)) - (y3 - (u.2.1 q5 ((60 : Int32)).toNatClampNeg)) / y3 * y3)) fun u10 => gf_nm (x5 + 1) fun a12 => rc_102 u10 t0 x1 y3 a12
def gf_Model_speedsWith_S102 (F : Nat) (z : gw_Sh)  (rc_102 : gw_St → Nat → Int32 → Int64 → Int32 → Option gw_St) (u : gw_St) (t0 : Nat) (x1 : Int32) (y3 : Int64) (x5 : Int32) : Option gw_St :=
  if (u.1 t0 18) ≤ x5 then (some u) else ((gf_Model_clearLine F z u t0).bind fun u15 => gf_nn (u15.2.2 t0 42) fun q17 => if (x5 < 0 ∨ z.2.2 q17 ≤ (x5).toNatClampNeg) then none else gf_nm (gw_wl u15 q17 (x5).toNatClampNeg (1 : Int64)) fun u20 => gf_cl (gf_Model_reduce F z u20 t0 y3) fun a24 u22 => if a24 < 0 then (gf_Model_speedsWith_b143 F z rc_102 u22 t0 x1 y3 x5) else (gf_nn (u22.2.2 t0 46) fun q26 => if (x5 < 0 ∨ z.2.2 q26 ≤ (x5).toNatClampNeg) then none else gf_nm (gw_wi u22 q26 (x5).toNatClampNeg (vp_nar .boolean (1 : Int32))) fun u29 => gf_Model_speedsWith_b143 F z rc_102 u29 t0 x1 y3 x5))
def gf_Model_speedsWith_L102 (F : Nat) (z : gw_Sh)  : Nat → gw_St → Nat → Int32 → Int64 → Int32 → Option gw_St
  | 0 => fun _ _ _ _ _ => none
  | n + 1 => fun u t0 x1 y3 x5 => gf_Model_speedsWith_S102 F z  (gf_Model_speedsWith_L102 F z  n) u t0 x1 y3 x5
def gf_Model_speedsWith_b88 (F : Nat) (z : gw_Sh)  (u : gw_St) (t0 : Nat) (x1 : Int32) (y3 : Int64) (st0 : Nat) (sx1 : Int32) (sx2 : Int32) : Option gw_St :=
  if (sx1 < 0 ∨ z.2.2 st0 ≤ (sx1).toNatClampNeg) then none else gf_nm (gw_wi u st0 (sx1).toNatClampNeg (vp_nar .boolean sx2)) fun u32 => gf_nn (u32.2.2 t0 45) fun q34 => if (x1 < 0 ∨ z.2.2 q34 ≤ (x1).toNatClampNeg) then none else if (u32.1 q34 (x1).toNatClampNeg) = 0 then (some u32) else (gf_Model_speedsWith_L102 F z  F u32 t0 x1 y3 0)
def gf_Model_speedsWith_S29 (F : Nat) (z : gw_Sh)  (rc_29 : gw_St → Nat → Int32 → Int32 → Int64 → Int32 → Option gw_St) (u : gw_St) (t0 : Nat) (x1 : Int32) (x2 : Int32) (y3 : Int64) (x5 : Int32) : Option gw_St :=
  if (u.1 t0 19) ≤ x5 then (gf_nn (u.2.2 t0 45) fun q39 => if (u.1 t0 41) = x2 then (gf_Model_speedsWith_b88 F z  u t0 x1 y3 q39 x1 1) else (gf_Model_speedsWith_b88 F z  u t0 x1 y3 q39 x1 0)) else ((gf_Model_lineOf F z u t0 x5 y3).bind fun u42 => gf_cl (gf_Model_reduce F z u42 t0 y3) fun a46 u44 => if a46 < 0 then (gf_Model_speedsWith_b64 F z rc_29 u44 t0 x1 x2 y3 x5) else ((gf_Model_keep F z u44 t0 a46 y3).bind fun u48 => gf_Model_speedsWith_b64 F z rc_29 u48 t0 x1 x2 y3 x5))
def gf_Model_speedsWith_L29 (F : Nat) (z : gw_Sh)  : Nat → gw_St → Nat → Int32 → Int32 → Int64 → Int32 → Option gw_St
  | 0 => fun _ _ _ _ _ _ => none
  | n + 1 => fun u t0 x1 x2 y3 x5 => gf_Model_speedsWith_S29 F z  (gf_Model_speedsWith_L29 F z  n) u t0 x1 x2 y3 x5
def gf_Model_speedsWith_b0 (F : Nat) (z : gw_Sh)  (u : gw_St) (t0 : Nat) (x1 : Int32) (x2 : Int32) : Option gw_St :=
  gf_nn (u.2.2 t0 38) fun q50 => if (x1 < 0 ∨ z.2.2 q50 ≤ (x1).toNatClampNeg) then none else gf_nm (((u.1 q50 (x1).toNatClampNeg)).toInt64) fun a53 => gf_nm (gw_wi u t0 41 (0 : Int32)) fun u55 => (gf_Model_crankLine F z u55 t0).bind fun u57 => (gf_Model_keep F z u57 t0 (u57.1 t0 20) a53).bind fun u59 => gf_Model_speedsWith_L29 F z  F u59 t0 x1 x2 a53 0
def gf_Model_speedsWith (F : Nat) (z : gw_Sh) (u : gw_St) (t0 : Nat) (x1 : Int32) (x2 : Int32) : Option gw_St := gf_Model_speedsWith_b0 F z  u t0 x1 x2
set_option maxHeartbeats 4000000 in
set_option maxRecDepth 20000 in
theorem gx_Model_speedsWith_b64 {p : Program} {l : Launch} {e : Env} {s : State} {m : MethodId} {args : Array Value} {below : List Frame} {meth : Method} {c : Code} {D : va_G} {cA : Nat → ClassId} {hs : Nat → Nat} {z : gw_Sh} (F : Nat) {r0 : gw_St} (C : gw_Cx p s m args c gb_Model_speedsWith 7 R_Model D cA) (hr : meth.sig.returnType = none) (hk : meth.locks = false) {rc_29 : gw_St → Nat → Int32 → Int32 → Int64 → Int32 → Option gw_St} (k_29 : ∀ (u : gw_St) (t0 : Nat) (x1 : Int32) (x2 : Int32) (y3 : Int64) (x5 : Int32) (H : Heap) (locs : List Loc) (ls : Array Slot), gw_ok z t0 9 → gw_Wx D cA hs z s u H locs → lv_has ls 7 [(0, .ref (hs t0)), (1, .int x1), (2, .int x2), (3, .long y3), (5, .int x5)] → rc_29 u t0 x1 x2 y3 x5 = some r0 → gw_Gv p l e gr_Model_speedsWith s m args below meth c D cA hs z r0 H locs ls 29 []) (u : gw_St) (t0 : Nat) (x1 : Int32) (x2 : Int32) (y3 : Int64) (x5 : Int32) (o_t0 : gw_ok z t0 9) {H : Heap} {locs : List Loc} {ls : Array Slot} (hW : gw_Wx D cA hs z s u H locs) (hl : lv_has ls 7 [(0, .ref (hs t0)), (1, .int x1), (2, .int x2), (3, .long y3), (5, .int x5)]) (h : gf_Model_speedsWith_b64 F z rc_29  u t0 x1 x2 y3 x5 = some r0) : gw_Gv p l e gr_Model_speedsWith s m args below meth c D cA hs z r0 H locs ls 64 [] := by
  obtain ⟨hx, hb, hml, hown, hts, hK⟩ := id C
  unfold gf_Model_speedsWith_b64 at h
  obtain ⟨a1, e2⟩ : ∃ y : Int32, y = x5 + 1 := ⟨_, rfl⟩
  have h := gf_nm_ok e2 h
  refine lv_iinc (v := a1) (lv' := [(5, .int a1), (0, .ref (hs t0)), (1, .int x1), (2, .int x2), (3, .long y3)]) hx hb gd_Model_speedsWith_64 hl (k := 4) rfl (by rw [e2]; rfl) (by decide) rfl (fun ls hl => ?_)
  refine lv_goto (tgt := 29) hx hb gd_Model_speedsWith_67 (by decide) ?_
  exact k_29 u t0 x1 x2 y3 a1 _ _ _ o_t0 hW (lv_sub hl [1, 2, 3, 4, 0] rfl) h

set_option maxHeartbeats 4000000 in
set_option maxRecDepth 20000 in
theorem gx_Model_speedsWith_b143 {p : Program} {l : Launch} {e : Env} {s : State} {m : MethodId} {args : Array Value} {below : List Frame} {meth : Method} {c : Code} {D : va_G} {cA : Nat → ClassId} {hs : Nat → Nat} {z : gw_Sh} (F : Nat) {r0 : gw_St} (C : gw_Cx p s m args c gb_Model_speedsWith 7 R_Model D cA) (hr : meth.sig.returnType = none) (hk : meth.locks = false) {rc_102 : gw_St → Nat → Int32 → Int64 → Int32 → Option gw_St} (k_102 : ∀ (u : gw_St) (t0 : Nat) (x1 : Int32) (y3 : Int64) (x5 : Int32) (H : Heap) (locs : List Loc) (ls : Array Slot), gw_ok z t0 9 → gw_Wx D cA hs z s u H locs → lv_has ls 7 [(0, .ref (hs t0)), (1, .int x1), (3, .long y3), (5, .int x5)] → rc_102 u t0 x1 y3 x5 = some r0 → gw_Gv p l e gr_Model_speedsWith s m args below meth c D cA hs z r0 H locs ls 102 []) (u : gw_St) (t0 : Nat) (x1 : Int32) (y3 : Int64) (x5 : Int32) (o_t0 : gw_ok z t0 9) {H : Heap} {locs : List Loc} {ls : Array Slot} (hW : gw_Wx D cA hs z s u H locs) (hl : lv_has ls 7 [(0, .ref (hs t0)), (1, .int x1), (3, .long y3), (5, .int x5)]) (h : gf_Model_speedsWith_b143 F z rc_102  u t0 x1 y3 x5 = some r0) : gw_Gv p l e gr_Model_speedsWith s m args below meth c D cA hs z r0 H locs ls 143 [] := by
  obtain ⟨hx, hb, hml, hown, hts, hK⟩ := id C
  unfold gf_Model_speedsWith_b143 at h
  refine lv_aload_n hx hb gd_Model_speedsWith_143 rfl (lv_at hl 0 rfl) ?_
  obtain ⟨q3, e4, h⟩ := gf_nn_ok h
  refine gw_getr (k := 47) (ty := 11) (ref := R_Model) C hW o_t0 (by decide) rfl gi_Model rfl (by decide) rfl rfl gk_521 gd_Model_speedsWith_144 e4 ?_
  have o_q3 := hW.ref (d := 11) o_t0 e4 rfl
  refine lv_bipush (v := 60) hx hb gd_Model_speedsWith_147 (by decide) ?_
  refine lv_iload_n hx hb gd_Model_speedsWith_149 rfl (lv_at hl 1 rfl) ?_
  refine lv_imul hx hb gd_Model_speedsWith_150 ?_
  refine lv_iload hx hb gd_Model_speedsWith_151 (lv_at hl 3 rfl) ?_
  refine lv_iadd hx hb gd_Model_speedsWith_153 ?_
  refine lv_lload_n hx hb gd_Model_speedsWith_154 rfl (lv_at hl 2 rfl) ?_
  refine lv_aload_n hx hb gd_Model_speedsWith_155 rfl (lv_at hl 0 rfl) ?_
  obtain ⟨q5, e6, h⟩ := gf_nn_ok h
  refine gw_getr (k := 42) (ty := 11) (ref := R_Model) C hW o_t0 (by decide) rfl gi_Model rfl (by decide) rfl rfl gk_487 gd_Model_speedsWith_156 e6 ?_
  have o_q5 := hW.ref (d := 11) o_t0 e6 rfl
  refine lv_bipush (v := 60) hx hb gd_Model_speedsWith_159 (by decide) ?_
  obtain ⟨g7, h⟩ := gf_if_ok h
  refine gw_lald C hW o_q5 g7 gd_Model_speedsWith_161 ?_
  refine lv_lsub hx hb gd_Model_speedsWith_162 ?_
  refine lv_lload_n hx hb gd_Model_speedsWith_163 rfl (lv_at hl 2 rfl) ?_
  obtain ⟨g8, h⟩ := gf_if_ok h
  refine lv_lrem hx hb gd_Model_speedsWith_164 g8 ?_
  obtain ⟨g9, h⟩ := gf_if_ok h
  refine gw_last C hW o_q3 g9 gd_Model_speedsWith_165 (fun u10 H locs e11 hW => ?_)
  have h := gf_nm_ok e11 h
  obtain ⟨a12, e13⟩ : ∃ y : Int32, y = x5 + 1 := ⟨_, rfl⟩
  have h := gf_nm_ok e13 h
  refine lv_iinc (v := a12) (lv' := [(5, .int a12), (0, .ref (hs t0)), (1, .int x1), (3, .long y3)]) hx hb gd_Model_speedsWith_166 hl (k := 3) rfl (by rw [e13]; rfl) (by decide) rfl (fun ls hl => ?_)
  refine lv_goto (tgt := 102) hx hb gd_Model_speedsWith_169 (by decide) ?_
  exact k_102 u10 t0 x1 y3 a12 _ _ _ o_t0 hW (lv_sub hl [1, 2, 3, 0] rfl) h

set_option maxHeartbeats 4000000 in
set_option maxRecDepth 20000 in
theorem gx_Model_speedsWith_S102 {p : Program} {l : Launch} {e : Env} {s : State} {m : MethodId} {args : Array Value} {below : List Frame} {meth : Method} {c : Code} {D : va_G} {cA : Nat → ClassId} {hs : Nat → Nat} {z : gw_Sh} (F : Nat) {r0 : gw_St} (C : gw_Cx p s m args c gb_Model_speedsWith 7 R_Model D cA) (hr : meth.sig.returnType = none) (hk : meth.locks = false) {rc_102 : gw_St → Nat → Int32 → Int64 → Int32 → Option gw_St} (k_102 : ∀ (u : gw_St) (t0 : Nat) (x1 : Int32) (y3 : Int64) (x5 : Int32) (H : Heap) (locs : List Loc) (ls : Array Slot), gw_ok z t0 9 → gw_Wx D cA hs z s u H locs → lv_has ls 7 [(0, .ref (hs t0)), (1, .int x1), (3, .long y3), (5, .int x5)] → rc_102 u t0 x1 y3 x5 = some r0 → gw_Gv p l e gr_Model_speedsWith s m args below meth c D cA hs z r0 H locs ls 102 []) (u : gw_St) (t0 : Nat) (x1 : Int32) (y3 : Int64) (x5 : Int32) (o_t0 : gw_ok z t0 9) {H : Heap} {locs : List Loc} {ls : Array Slot} (hW : gw_Wx D cA hs z s u H locs) (hl : lv_has ls 7 [(0, .ref (hs t0)), (1, .int x1), (3, .long y3), (5, .int x5)]) (h : gf_Model_speedsWith_S102 F z  rc_102 u t0 x1 y3 x5 = some r0) : gw_Gv p l e gr_Model_speedsWith s m args below meth c D cA hs z r0 H locs ls 102 [] := by
  obtain ⟨hx, hb, hml, hown, hts, hK⟩ := id C
  unfold gf_Model_speedsWith_S102 at h
  refine lv_iload hx hb gd_Model_speedsWith_102 (lv_at hl 3 rfl) ?_
  refine lv_aload_n hx hb gd_Model_speedsWith_104 rfl (lv_at hl 0 rfl) ?_
  refine gw_geti (k := 18) (ref := R_Model) C hW o_t0 (by decide) rfl gi_Model rfl (by decide) rfl rfl gk_461 gd_Model_speedsWith_105 ?_
  refine lv_icmp_ge (tgt := 172) hx hb gd_Model_speedsWith_108 (by decide) (fun c14 => ?_) (fun c14 => ?_)
  · have h := gf_t c14 h
    obtain rfl := Option.some.inj h
    exact gw_vret C hW hr hk gd_Model_speedsWith_172
  · have h := gf_f c14 h
    refine lv_aload_n hx hb gd_Model_speedsWith_111 rfl (lv_at hl 0 rfl) ?_
    obtain ⟨u15, d16, h⟩ := gf_bd_ok h
    refine gw_callVv (K := R_Model) (As := []) (rest := []) C hW (fun _ h => Or.inr h) hl.1 gm_Model_clearLine (gc_Model_clearLine l F o_t0 d16 _) gk_493 gk_494 gk_495 o_t0 (by decide) rfl rfl rfl ⟨Nat.le_of_ble_eq_true rfl, Nat.le_of_ble_eq_true rfl⟩ ⟨Nat.zero_le _, Nat.zero_le _⟩ rfl rfl (Nat.le_of_ble_eq_true rfl) gd_Model_speedsWith_112 (fun H locs hW => ?_)
    refine lv_aload_n hx hb gd_Model_speedsWith_115 rfl (lv_at hl 0 rfl) ?_
    obtain ⟨q17, e18, h⟩ := gf_nn_ok h
    refine gw_getr (k := 42) (ty := 11) (ref := R_Model) C hW o_t0 (by decide) rfl gi_Model rfl (by decide) rfl rfl gk_487 gd_Model_speedsWith_116 e18 ?_
    have o_q17 := hW.ref (d := 11) o_t0 e18 rfl
    refine lv_iload hx hb gd_Model_speedsWith_119 (lv_at hl 3 rfl) ?_
    refine lv_lconst (v := 1) hx hb gd_Model_speedsWith_121 (by decide) ?_
    obtain ⟨g19, h⟩ := gf_if_ok h
    refine gw_last C hW o_q17 g19 gd_Model_speedsWith_122 (fun u20 H locs e21 hW => ?_)
    have h := gf_nm_ok e21 h
    refine lv_aload_n hx hb gd_Model_speedsWith_123 rfl (lv_at hl 0 rfl) ?_
    refine lv_lload_n hx hb gd_Model_speedsWith_124 rfl (lv_at hl 2 rfl) ?_
    obtain ⟨a24, u22, d23, h⟩ := gf_cl_ok h
    refine gw_callVi (K := R_Model) (As := [.long y3]) (rest := []) C hW (fun _ h => Or.inr h) hl.1 gm_Model_reduce (gc_Model_reduce l F o_t0 d23 _) gk_510 gk_511 gk_512 o_t0 (by decide) rfl rfl rfl ⟨Nat.le_of_ble_eq_true rfl, Nat.le_of_ble_eq_true rfl⟩ ⟨Nat.zero_le _, Nat.zero_le _⟩ rfl rfl (Nat.le_of_ble_eq_true rfl) gd_Model_speedsWith_125 (fun H locs hW => ?_)
    refine lv_istore (lv' := [(6, .int a24), (0, .ref (hs t0)), (1, .int x1), (3, .long y3), (5, .int x5)]) hx hb gd_Model_speedsWith_128 hl (by decide) rfl (fun ls hl => ?_)
    refine lv_iload hx hb gd_Model_speedsWith_130 (lv_at hl 0 rfl) ?_
    refine lv_if_lt (tgt := 143) hx hb gd_Model_speedsWith_132 (by decide) (fun c25 => ?_) (fun c25 => ?_)
    · have h := gf_t c25 h
      exact gx_Model_speedsWith_b143 F C hr hk k_102 u22 t0 x1 y3 x5 o_t0 hW (lv_sub hl [1, 2, 3, 4] rfl) h
    · have h := gf_f c25 h
      refine lv_aload_n hx hb gd_Model_speedsWith_135 rfl (lv_at hl 1 rfl) ?_
      obtain ⟨q26, e27, h⟩ := gf_nn_ok h
      refine gw_getr (k := 46) (ty := 12) (ref := R_Model) C hW o_t0 (by decide) rfl gi_Model rfl (by decide) rfl rfl gk_522 gd_Model_speedsWith_136 e27 ?_
      have o_q26 := hW.ref (d := 12) o_t0 e27 rfl
      refine lv_iload hx hb gd_Model_speedsWith_139 (lv_at hl 4 rfl) ?_
      refine lv_iconst (v := 1) hx hb gd_Model_speedsWith_141 (by decide) ?_
      obtain ⟨g28, h⟩ := gf_if_ok h
      refine gw_zast C hW o_q26 g28 gd_Model_speedsWith_142 (fun u29 H locs e30 hW => ?_)
      have h := gf_nm_ok e30 h
      exact gx_Model_speedsWith_b143 F C hr hk k_102 u29 t0 x1 y3 x5 o_t0 hW (lv_sub hl [1, 2, 3, 4] rfl) h
set_option maxHeartbeats 4000000 in
set_option maxRecDepth 20000 in
theorem gx_Model_speedsWith_L102 {p : Program} {l : Launch} {e : Env} {s : State} {m : MethodId} {args : Array Value} {below : List Frame} {meth : Method} {c : Code} {D : va_G} {cA : Nat → ClassId} {hs : Nat → Nat} {z : gw_Sh} (F : Nat) {r0 : gw_St} (C : gw_Cx p s m args c gb_Model_speedsWith 7 R_Model D cA) (hr : meth.sig.returnType = none) (hk : meth.locks = false) : ∀ (n : Nat), ∀ (u : gw_St) (t0 : Nat) (x1 : Int32) (y3 : Int64) (x5 : Int32) (H : Heap) (locs : List Loc) (ls : Array Slot), gw_ok z t0 9 → gw_Wx D cA hs z s u H locs → lv_has ls 7 [(0, .ref (hs t0)), (1, .int x1), (3, .long y3), (5, .int x5)] → gf_Model_speedsWith_L102 F z  n u t0 x1 y3 x5 = some r0 → gw_Gv p l e gr_Model_speedsWith s m args below meth c D cA hs z r0 H locs ls 102 [] := by
  intro n
  induction n with
  | zero =>
    intro u t0 x1 y3 x5 H locs ls o_t0 hW hl h
    cases h
  | succ n ih =>
    intro u t0 x1 y3 x5 H locs ls o_t0 hW hl h
    exact gx_Model_speedsWith_S102 F C hr hk  ih u t0 x1 y3 x5 o_t0 hW hl h

set_option maxHeartbeats 4000000 in
set_option maxRecDepth 20000 in
theorem gx_Model_speedsWith_b88 {p : Program} {l : Launch} {e : Env} {s : State} {m : MethodId} {args : Array Value} {below : List Frame} {meth : Method} {c : Code} {D : va_G} {cA : Nat → ClassId} {hs : Nat → Nat} {z : gw_Sh} (F : Nat) {r0 : gw_St} (C : gw_Cx p s m args c gb_Model_speedsWith 7 R_Model D cA) (hr : meth.sig.returnType = none) (hk : meth.locks = false) (u : gw_St) (t0 : Nat) (x1 : Int32) (y3 : Int64) (st0 : Nat) (sx1 : Int32) (sx2 : Int32) (o_t0 : gw_ok z t0 9) (o_st0 : gw_ok z st0 12) {H : Heap} {locs : List Loc} {ls : Array Slot} (hW : gw_Wx D cA hs z s u H locs) (hl : lv_has ls 7 [(0, .ref (hs t0)), (1, .int x1), (3, .long y3)]) (h : gf_Model_speedsWith_b88 F z   u t0 x1 y3 st0 sx1 sx2 = some r0) : gw_Gv p l e gr_Model_speedsWith s m args below meth c D cA hs z r0 H locs ls 88 [.int sx2, .int sx1, .ref (hs st0)] := by
  obtain ⟨hx, hb, hml, hown, hts, hK⟩ := id C
  unfold gf_Model_speedsWith_b88 at h
  obtain ⟨g31, h⟩ := gf_if_ok h
  refine gw_zast C hW o_st0 g31 gd_Model_speedsWith_88 (fun u32 H locs e33 hW => ?_)
  have h := gf_nm_ok e33 h
  refine lv_aload_n hx hb gd_Model_speedsWith_89 rfl (lv_at hl 0 rfl) ?_
  obtain ⟨q34, e35, h⟩ := gf_nn_ok h
  refine gw_getr (k := 45) (ty := 12) (ref := R_Model) C hW o_t0 (by decide) rfl gi_Model rfl (by decide) rfl rfl gk_523 gd_Model_speedsWith_90 e35 ?_
  have o_q34 := hW.ref (d := 12) o_t0 e35 rfl
  refine lv_iload_n hx hb gd_Model_speedsWith_93 rfl (lv_at hl 1 rfl) ?_
  obtain ⟨g36, h⟩ := gf_if_ok h
  refine gw_zald C hW o_q34 g36 gd_Model_speedsWith_94 ?_
  refine lv_if_ne (tgt := 99) hx hb gd_Model_speedsWith_95 (by decide) (fun c37 => ?_) (fun c37 => ?_)
  · have h := gf_f c37 h
    refine lv_iconst (v := 0) hx hb gd_Model_speedsWith_99 (by decide) ?_
    refine lv_istore (lv' := [(5, .int 0), (0, .ref (hs t0)), (1, .int x1), (3, .long y3)]) hx hb gd_Model_speedsWith_100 hl (by decide) rfl (fun ls hl => ?_)
    exact gx_Model_speedsWith_L102 F C hr hk  F u32 t0 x1 y3 0 _ _ _ o_t0 hW (lv_sub hl [1, 2, 3, 0] rfl) h
  · have h := gf_t c37 h
    obtain rfl := Option.some.inj h
    exact gw_vret C hW hr hk gd_Model_speedsWith_98

set_option maxHeartbeats 4000000 in
set_option maxRecDepth 20000 in
theorem gx_Model_speedsWith_S29 {p : Program} {l : Launch} {e : Env} {s : State} {m : MethodId} {args : Array Value} {below : List Frame} {meth : Method} {c : Code} {D : va_G} {cA : Nat → ClassId} {hs : Nat → Nat} {z : gw_Sh} (F : Nat) {r0 : gw_St} (C : gw_Cx p s m args c gb_Model_speedsWith 7 R_Model D cA) (hr : meth.sig.returnType = none) (hk : meth.locks = false) {rc_29 : gw_St → Nat → Int32 → Int32 → Int64 → Int32 → Option gw_St} (k_29 : ∀ (u : gw_St) (t0 : Nat) (x1 : Int32) (x2 : Int32) (y3 : Int64) (x5 : Int32) (H : Heap) (locs : List Loc) (ls : Array Slot), gw_ok z t0 9 → gw_Wx D cA hs z s u H locs → lv_has ls 7 [(0, .ref (hs t0)), (1, .int x1), (2, .int x2), (3, .long y3), (5, .int x5)] → rc_29 u t0 x1 x2 y3 x5 = some r0 → gw_Gv p l e gr_Model_speedsWith s m args below meth c D cA hs z r0 H locs ls 29 []) (u : gw_St) (t0 : Nat) (x1 : Int32) (x2 : Int32) (y3 : Int64) (x5 : Int32) (o_t0 : gw_ok z t0 9) {H : Heap} {locs : List Loc} {ls : Array Slot} (hW : gw_Wx D cA hs z s u H locs) (hl : lv_has ls 7 [(0, .ref (hs t0)), (1, .int x1), (2, .int x2), (3, .long y3), (5, .int x5)]) (h : gf_Model_speedsWith_S29 F z  rc_29 u t0 x1 x2 y3 x5 = some r0) : gw_Gv p l e gr_Model_speedsWith s m args below meth c D cA hs z r0 H locs ls 29 [] := by
  obtain ⟨hx, hb, hml, hown, hts, hK⟩ := id C
  unfold gf_Model_speedsWith_S29 at h
  refine lv_iload hx hb gd_Model_speedsWith_29 (lv_at hl 4 rfl) ?_
  refine lv_aload_n hx hb gd_Model_speedsWith_31 rfl (lv_at hl 0 rfl) ?_
  refine gw_geti (k := 19) (ref := R_Model) C hW o_t0 (by decide) rfl gi_Model rfl (by decide) rfl rfl gk_466 gd_Model_speedsWith_32 ?_
  refine lv_icmp_ge (tgt := 70) hx hb gd_Model_speedsWith_35 (by decide) (fun c38 => ?_) (fun c38 => ?_)
  · have h := gf_t c38 h
    refine lv_aload_n hx hb gd_Model_speedsWith_70 rfl (lv_at hl 0 rfl) ?_
    obtain ⟨q39, e40, h⟩ := gf_nn_ok h
    refine gw_getr (k := 45) (ty := 12) (ref := R_Model) C hW o_t0 (by decide) rfl gi_Model rfl (by decide) rfl rfl gk_523 gd_Model_speedsWith_71 e40 ?_
    have o_q39 := hW.ref (d := 12) o_t0 e40 rfl
    refine lv_iload_n hx hb gd_Model_speedsWith_74 rfl (lv_at hl 1 rfl) ?_
    refine lv_aload_n hx hb gd_Model_speedsWith_75 rfl (lv_at hl 0 rfl) ?_
    refine gw_geti (k := 41) (ref := R_Model) C hW o_t0 (by decide) rfl gi_Model rfl (by decide) rfl rfl gk_499 gd_Model_speedsWith_76 ?_
    refine lv_iload_n hx hb gd_Model_speedsWith_79 rfl (lv_at hl 2 rfl) ?_
    refine lv_icmp_ne (tgt := 87) hx hb gd_Model_speedsWith_80 (by decide) (fun c41 => ?_) (fun c41 => ?_)
    · have h := gf_f c41 h
      refine lv_iconst (v := 0) hx hb gd_Model_speedsWith_87 (by decide) ?_
      exact gx_Model_speedsWith_b88 F C hr hk  u t0 x1 y3 q39 x1 0 o_t0 o_q39 hW (lv_sub hl [0, 1, 3] rfl) h
    · have h := gf_t c41 h
      refine lv_iconst (v := 1) hx hb gd_Model_speedsWith_83 (by decide) ?_
      refine lv_goto (tgt := 88) hx hb gd_Model_speedsWith_84 (by decide) ?_
      exact gx_Model_speedsWith_b88 F C hr hk  u t0 x1 y3 q39 x1 1 o_t0 o_q39 hW (lv_sub hl [0, 1, 3] rfl) h
  · have h := gf_f c38 h
    refine lv_aload_n hx hb gd_Model_speedsWith_38 rfl (lv_at hl 0 rfl) ?_
    refine lv_iload hx hb gd_Model_speedsWith_39 (lv_at hl 4 rfl) ?_
    refine lv_lload_n hx hb gd_Model_speedsWith_41 rfl (lv_at hl 3 rfl) ?_
    obtain ⟨u42, d43, h⟩ := gf_bd_ok h
    refine gw_callVv (K := R_Model) (As := [.int x5, .long y3]) (rest := []) C hW (fun _ h => Or.inr h) hl.1 gm_Model_lineOf (gc_Model_lineOf l F o_t0 d43 _) gk_514 gk_515 gk_516 o_t0 (by decide) rfl rfl rfl ⟨Nat.le_of_ble_eq_true rfl, Nat.le_of_ble_eq_true rfl⟩ ⟨Nat.zero_le _, Nat.zero_le _⟩ rfl rfl (Nat.le_of_ble_eq_true rfl) gd_Model_speedsWith_42 (fun H locs hW => ?_)
    refine lv_aload_n hx hb gd_Model_speedsWith_45 rfl (lv_at hl 0 rfl) ?_
    refine lv_lload_n hx hb gd_Model_speedsWith_46 rfl (lv_at hl 3 rfl) ?_
    obtain ⟨a46, u44, d45, h⟩ := gf_cl_ok h
    refine gw_callVi (K := R_Model) (As := [.long y3]) (rest := []) C hW (fun _ h => Or.inr h) hl.1 gm_Model_reduce (gc_Model_reduce l F o_t0 d45 _) gk_510 gk_511 gk_512 o_t0 (by decide) rfl rfl rfl ⟨Nat.le_of_ble_eq_true rfl, Nat.le_of_ble_eq_true rfl⟩ ⟨Nat.zero_le _, Nat.zero_le _⟩ rfl rfl (Nat.le_of_ble_eq_true rfl) gd_Model_speedsWith_47 (fun H locs hW => ?_)
    refine lv_istore (lv' := [(6, .int a46), (0, .ref (hs t0)), (1, .int x1), (2, .int x2), (3, .long y3), (5, .int x5)]) hx hb gd_Model_speedsWith_50 hl (by decide) rfl (fun ls hl => ?_)
    refine lv_iload hx hb gd_Model_speedsWith_52 (lv_at hl 0 rfl) ?_
    refine lv_if_lt (tgt := 64) hx hb gd_Model_speedsWith_54 (by decide) (fun c47 => ?_) (fun c47 => ?_)
    · have h := gf_t c47 h
      exact gx_Model_speedsWith_b64 F C hr hk k_29 u44 t0 x1 x2 y3 x5 o_t0 hW (lv_sub hl [1, 2, 3, 4, 5] rfl) h
    · have h := gf_f c47 h
      refine lv_aload_n hx hb gd_Model_speedsWith_57 rfl (lv_at hl 1 rfl) ?_
      refine lv_iload hx hb gd_Model_speedsWith_58 (lv_at hl 0 rfl) ?_
      refine lv_lload_n hx hb gd_Model_speedsWith_60 rfl (lv_at hl 4 rfl) ?_
      obtain ⟨u48, d49, h⟩ := gf_bd_ok h
      refine gw_callVv (K := R_Model) (As := [.int a46, .long y3]) (rest := []) C hW (fun _ h => Or.inr h) hl.1 gm_Model_keep (gc_Model_keep l F o_t0 d49 _) gk_517 gk_518 gk_519 o_t0 (by decide) rfl rfl rfl ⟨Nat.le_of_ble_eq_true rfl, Nat.le_of_ble_eq_true rfl⟩ ⟨Nat.zero_le _, Nat.zero_le _⟩ rfl rfl (Nat.le_of_ble_eq_true rfl) gd_Model_speedsWith_61 (fun H locs hW => ?_)
      exact gx_Model_speedsWith_b64 F C hr hk k_29 u48 t0 x1 x2 y3 x5 o_t0 hW (lv_sub hl [1, 2, 3, 4, 5] rfl) h
set_option maxHeartbeats 4000000 in
set_option maxRecDepth 20000 in
theorem gx_Model_speedsWith_L29 {p : Program} {l : Launch} {e : Env} {s : State} {m : MethodId} {args : Array Value} {below : List Frame} {meth : Method} {c : Code} {D : va_G} {cA : Nat → ClassId} {hs : Nat → Nat} {z : gw_Sh} (F : Nat) {r0 : gw_St} (C : gw_Cx p s m args c gb_Model_speedsWith 7 R_Model D cA) (hr : meth.sig.returnType = none) (hk : meth.locks = false) : ∀ (n : Nat), ∀ (u : gw_St) (t0 : Nat) (x1 : Int32) (x2 : Int32) (y3 : Int64) (x5 : Int32) (H : Heap) (locs : List Loc) (ls : Array Slot), gw_ok z t0 9 → gw_Wx D cA hs z s u H locs → lv_has ls 7 [(0, .ref (hs t0)), (1, .int x1), (2, .int x2), (3, .long y3), (5, .int x5)] → gf_Model_speedsWith_L29 F z  n u t0 x1 x2 y3 x5 = some r0 → gw_Gv p l e gr_Model_speedsWith s m args below meth c D cA hs z r0 H locs ls 29 [] := by
  intro n
  induction n with
  | zero =>
    intro u t0 x1 x2 y3 x5 H locs ls o_t0 hW hl h
    cases h
  | succ n ih =>
    intro u t0 x1 x2 y3 x5 H locs ls o_t0 hW hl h
    exact gx_Model_speedsWith_S29 F C hr hk  ih u t0 x1 x2 y3 x5 o_t0 hW hl h

set_option maxHeartbeats 4000000 in
set_option maxRecDepth 20000 in
theorem gx_Model_speedsWith_b0 {p : Program} {l : Launch} {e : Env} {s : State} {m : MethodId} {args : Array Value} {below : List Frame} {meth : Method} {c : Code} {D : va_G} {cA : Nat → ClassId} {hs : Nat → Nat} {z : gw_Sh} (F : Nat) {r0 : gw_St} (C : gw_Cx p s m args c gb_Model_speedsWith 7 R_Model D cA) (hr : meth.sig.returnType = none) (hk : meth.locks = false) (u : gw_St) (t0 : Nat) (x1 : Int32) (x2 : Int32) (o_t0 : gw_ok z t0 9) {H : Heap} {locs : List Loc} {ls : Array Slot} (hW : gw_Wx D cA hs z s u H locs) (hl : lv_has ls 7 [(0, .ref (hs t0)), (1, .int x1), (2, .int x2)]) (h : gf_Model_speedsWith_b0 F z   u t0 x1 x2 = some r0) : gw_Gv p l e gr_Model_speedsWith s m args below meth c D cA hs z r0 H locs ls 0 [] := by
  obtain ⟨hx, hb, hml, hown, hts, hK⟩ := id C
  unfold gf_Model_speedsWith_b0 at h
  refine lv_aload_n hx hb gd_Model_speedsWith_0 rfl (lv_at hl 0 rfl) ?_
  obtain ⟨q50, e51, h⟩ := gf_nn_ok h
  refine gw_getr (k := 38) (ty := 10) (ref := R_Model) C hW o_t0 (by decide) rfl gi_Model rfl (by decide) rfl rfl gk_524 gd_Model_speedsWith_1 e51 ?_
  have o_q50 := hW.ref (d := 10) o_t0 e51 rfl
  refine lv_iload_n hx hb gd_Model_speedsWith_4 rfl (lv_at hl 1 rfl) ?_
  obtain ⟨g52, h⟩ := gf_if_ok h
  refine gw_iald C hW o_q50 g52 gd_Model_speedsWith_5 ?_
  refine lv_i2l hx hb gd_Model_speedsWith_6 rfl ?_
  refine lv_topl (fun a53 e54 => ?_)
  have h := gf_nm_ok e54 h
  refine lv_lstore_n (lv' := [(3, .long a53), (0, .ref (hs t0)), (1, .int x1), (2, .int x2)]) hx hb gd_Model_speedsWith_7 rfl hl (by decide) rfl (fun ls hl => ?_)
  refine lv_aload_n hx hb gd_Model_speedsWith_8 rfl (lv_at hl 1 rfl) ?_
  refine lv_iconst (v := 0) hx hb gd_Model_speedsWith_9 (by decide) ?_
  refine gw_puti (k := 41) (ref := R_Model) (fty := .int) C hW o_t0 (by decide) rfl gi_Model rfl (by decide) rfl rfl gk_499 tf_Model tf_Model_ok nm_Model rfl rfl rfl rfl gd_Model_speedsWith_10 (fun u55 H locs e56 hW => ?_)
  have h := gf_nm_ok e56 h
  refine lv_aload_n hx hb gd_Model_speedsWith_13 rfl (lv_at hl 1 rfl) ?_
  obtain ⟨u57, d58, h⟩ := gf_bd_ok h
  refine gw_callVv (K := R_Model) (As := []) (rest := []) C hW (fun _ h => Or.inr h) hl.1 gm_Model_crankLine (gc_Model_crankLine l F o_t0 d58 _) gk_507 gk_508 gk_509 o_t0 (by decide) rfl rfl rfl ⟨Nat.le_of_ble_eq_true rfl, Nat.le_of_ble_eq_true rfl⟩ ⟨Nat.zero_le _, Nat.zero_le _⟩ rfl rfl (Nat.le_of_ble_eq_true rfl) gd_Model_speedsWith_14 (fun H locs hW => ?_)
  refine lv_aload_n hx hb gd_Model_speedsWith_17 rfl (lv_at hl 1 rfl) ?_
  refine lv_aload_n hx hb gd_Model_speedsWith_18 rfl (lv_at hl 1 rfl) ?_
  refine gw_geti (k := 20) (ref := R_Model) C hW o_t0 (by decide) rfl gi_Model rfl (by decide) rfl rfl gk_484 gd_Model_speedsWith_19 ?_
  refine lv_lload_n hx hb gd_Model_speedsWith_22 rfl (lv_at hl 0 rfl) ?_
  obtain ⟨u59, d60, h⟩ := gf_bd_ok h
  refine gw_callVv (K := R_Model) (As := [.int (u57.1 t0 20), .long a53]) (rest := []) C hW (fun _ h => Or.inr h) hl.1 gm_Model_keep (gc_Model_keep l F o_t0 d60 _) gk_517 gk_518 gk_519 o_t0 (by decide) rfl rfl rfl ⟨Nat.le_of_ble_eq_true rfl, Nat.le_of_ble_eq_true rfl⟩ ⟨Nat.zero_le _, Nat.zero_le _⟩ rfl rfl (Nat.le_of_ble_eq_true rfl) gd_Model_speedsWith_23 (fun H locs hW => ?_)
  refine lv_iconst (v := 0) hx hb gd_Model_speedsWith_26 (by decide) ?_
  refine lv_istore (lv' := [(5, .int 0), (3, .long a53), (0, .ref (hs t0)), (1, .int x1), (2, .int x2)]) hx hb gd_Model_speedsWith_27 hl (by decide) rfl (fun ls hl => ?_)
  exact gx_Model_speedsWith_L29 F C hr hk  F u59 t0 x1 x2 a53 0 _ _ _ o_t0 hW (lv_sub hl [2, 3, 4, 1, 0] rfl) h

set_option maxRecDepth 20000 in
theorem gc_Model_speedsWith (l : Launch) {D : va_G} {cA : Nat → ClassId} {hs : Nat → Nat} {z : gw_Sh} (F : Nat) {u : gw_St} {r0 : gw_St} {t0 : Nat} {x1 : Int32} {x2 : Int32} (o_t0 : gw_ok z t0 9) (h : gf_Model_speedsWith F z u t0 x1 x2 = some r0) (sz : Nat) : gw_Mv l gy_Model_speedsWith gb_Model_speedsWith 7 none gr_Model_speedsWith [.ref (hs t0), .int x1, .int x2] D cA hs z u sz r0 := by
  refine gw_enter (by decide) (Nat.le_of_ble_eq_true rfl) ?_
  intro p e s m below meth c ls hsz C hW hr hk _ hl
  subst hsz
  exact gx_Model_speedsWith_b0 F C hr hk u t0 x1 x2 o_t0 hW (lv_sub hl [0, 1, 2] rfl) h
-- GearDeskModel.clearWide(I)V
theorem gk_526 : Cond.fieldLink R_Model 104 R_Model "z" "[J" ∈ gt_T := gt_m6 (List.mem_of_getElem? (i := 100) rfl) rfl
def gy_Model_clearWide : MethodName := ⟨R_Model, "clearWide", "(I)V"⟩
abbrev gb_Model_clearWide : ByteArray := prog_11_method_43_code
theorem gk_527 : Cond.code gy_Model_clearWide gb_Model_clearWide 3 none ∈ gt_T := gt_m7 (List.mem_of_getElem? (i := 140) rfl) rfl
def gr_Model_clearWide : Room := gw_rm 1 64
theorem gm_Model_clearWide : gw_Mth gy_Model_clearWide gb_Model_clearWide 3 none 1 := ⟨gk_527, gk_377, ⟨by decide +kernel, by decide +kernel⟩, by decide +kernel⟩
theorem gd_Model_clearWide_0 : decode gb_Model_clearWide 0 = .ok (.iconst 0, 1) := by decide +kernel
theorem gd_Model_clearWide_1 : decode gb_Model_clearWide 1 = .ok (.istore_n 2, 1) := by decide +kernel
theorem gd_Model_clearWide_2 : decode gb_Model_clearWide 2 = .ok (.iload_n 2, 1) := by decide +kernel
theorem gd_Model_clearWide_3 : decode gb_Model_clearWide 3 = .ok (.sipush 256, 3) := by decide +kernel
theorem gd_Model_clearWide_6 : decode gb_Model_clearWide 6 = .ok (.if_icmp .ge 22, 3) := by decide +kernel
theorem gd_Model_clearWide_9 : decode gb_Model_clearWide 9 = .ok (.aload_n 0, 1) := by decide +kernel
theorem gd_Model_clearWide_10 : decode gb_Model_clearWide 10 = .ok (.getfield 104, 3) := by decide +kernel
theorem gd_Model_clearWide_13 : decode gb_Model_clearWide 13 = .ok (.sipush 256, 3) := by decide +kernel
theorem gd_Model_clearWide_16 : decode gb_Model_clearWide 16 = .ok (.iload_n 1, 1) := by decide +kernel
theorem gd_Model_clearWide_17 : decode gb_Model_clearWide 17 = .ok (.imul, 1) := by decide +kernel
theorem gd_Model_clearWide_18 : decode gb_Model_clearWide 18 = .ok (.iload_n 2, 1) := by decide +kernel
theorem gd_Model_clearWide_19 : decode gb_Model_clearWide 19 = .ok (.iadd, 1) := by decide +kernel
theorem gd_Model_clearWide_20 : decode gb_Model_clearWide 20 = .ok (.lconst 0, 1) := by decide +kernel
theorem gd_Model_clearWide_21 : decode gb_Model_clearWide 21 = .ok (.lastore, 1) := by decide +kernel
theorem gd_Model_clearWide_22 : decode gb_Model_clearWide 22 = .ok (.iinc 2 1, 3) := by decide +kernel
theorem gd_Model_clearWide_25 : decode gb_Model_clearWide 25 = .ok (.goto (-23), 3) := by decide +kernel
theorem gd_Model_clearWide_28 : decode gb_Model_clearWide 28 = .ok (.return_, 1) := by decide +kernel
def gf_Model_clearWide_S2 (F : Nat) (z : gw_Sh)  (rc_2 : gw_St → Nat → Int32 → Int32 → Option gw_St) (u : gw_St) (t0 : Nat) (x1 : Int32) (x2 : Int32) : Option gw_St :=
  if (256 : Int32) ≤ x2 then (some u) else (gf_nn (u.2.2 t0 48) fun q2 => if ((((256 : Int32) * x1) + x2) < 0 ∨ z.2.2 q2 ≤ ((((256 : Int32) * x1) + x2)).toNatClampNeg) then none else gf_nm (gw_wl u q2 ((((256 : Int32) * x1) + x2)).toNatClampNeg (0 : Int64)) fun u5 => gf_nm (x2 + 1) fun a7 => rc_2 u5 t0 x1 a7)
def gf_Model_clearWide_L2 (F : Nat) (z : gw_Sh)  : Nat → gw_St → Nat → Int32 → Int32 → Option gw_St
  | 0 => fun _ _ _ _ => none
  | n + 1 => fun u t0 x1 x2 => gf_Model_clearWide_S2 F z  (gf_Model_clearWide_L2 F z  n) u t0 x1 x2
def gf_Model_clearWide_b0 (F : Nat) (z : gw_Sh)  (u : gw_St) (t0 : Nat) (x1 : Int32) : Option gw_St :=
  gf_Model_clearWide_L2 F z  F u t0 x1 0
def gf_Model_clearWide (F : Nat) (z : gw_Sh) (u : gw_St) (t0 : Nat) (x1 : Int32) : Option gw_St := gf_Model_clearWide_b0 F z  u t0 x1
set_option maxHeartbeats 4000000 in
set_option maxRecDepth 20000 in
theorem gx_Model_clearWide_S2 {p : Program} {l : Launch} {e : Env} {s : State} {m : MethodId} {args : Array Value} {below : List Frame} {meth : Method} {c : Code} {D : va_G} {cA : Nat → ClassId} {hs : Nat → Nat} {z : gw_Sh} (F : Nat) {r0 : gw_St} (C : gw_Cx p s m args c gb_Model_clearWide 3 R_Model D cA) (hr : meth.sig.returnType = none) (hk : meth.locks = false) {rc_2 : gw_St → Nat → Int32 → Int32 → Option gw_St} (k_2 : ∀ (u : gw_St) (t0 : Nat) (x1 : Int32) (x2 : Int32) (H : Heap) (locs : List Loc) (ls : Array Slot), gw_ok z t0 9 → gw_Wx D cA hs z s u H locs → lv_has ls 3 [(0, .ref (hs t0)), (1, .int x1), (2, .int x2)] → rc_2 u t0 x1 x2 = some r0 → gw_Gv p l e gr_Model_clearWide s m args below meth c D cA hs z r0 H locs ls 2 []) (u : gw_St) (t0 : Nat) (x1 : Int32) (x2 : Int32) (o_t0 : gw_ok z t0 9) {H : Heap} {locs : List Loc} {ls : Array Slot} (hW : gw_Wx D cA hs z s u H locs) (hl : lv_has ls 3 [(0, .ref (hs t0)), (1, .int x1), (2, .int x2)]) (h : gf_Model_clearWide_S2 F z  rc_2 u t0 x1 x2 = some r0) : gw_Gv p l e gr_Model_clearWide s m args below meth c D cA hs z r0 H locs ls 2 [] := by
  obtain ⟨hx, hb, hml, hown, hts, hK⟩ := id C
  unfold gf_Model_clearWide_S2 at h
  refine lv_iload_n hx hb gd_Model_clearWide_2 rfl (lv_at hl 2 rfl) ?_
  refine lv_sipush (v := 256) hx hb gd_Model_clearWide_3 (by decide) ?_
  refine lv_icmp_ge (tgt := 28) hx hb gd_Model_clearWide_6 (by decide) (fun c1 => ?_) (fun c1 => ?_)
  · have h := gf_t c1 h
    obtain rfl := Option.some.inj h
    exact gw_vret C hW hr hk gd_Model_clearWide_28
  · have h := gf_f c1 h
    refine lv_aload_n hx hb gd_Model_clearWide_9 rfl (lv_at hl 0 rfl) ?_
    obtain ⟨q2, e3, h⟩ := gf_nn_ok h
    refine gw_getr (k := 48) (ty := 11) (ref := R_Model) C hW o_t0 (by decide) rfl gi_Model rfl (by decide) rfl rfl gk_526 gd_Model_clearWide_10 e3 ?_
    have o_q2 := hW.ref (d := 11) o_t0 e3 rfl
    refine lv_sipush (v := 256) hx hb gd_Model_clearWide_13 (by decide) ?_
    refine lv_iload_n hx hb gd_Model_clearWide_16 rfl (lv_at hl 1 rfl) ?_
    refine lv_imul hx hb gd_Model_clearWide_17 ?_
    refine lv_iload_n hx hb gd_Model_clearWide_18 rfl (lv_at hl 2 rfl) ?_
    refine lv_iadd hx hb gd_Model_clearWide_19 ?_
    refine lv_lconst (v := 0) hx hb gd_Model_clearWide_20 (by decide) ?_
    obtain ⟨g4, h⟩ := gf_if_ok h
    refine gw_last C hW o_q2 g4 gd_Model_clearWide_21 (fun u5 H locs e6 hW => ?_)
    have h := gf_nm_ok e6 h
    obtain ⟨a7, e8⟩ : ∃ y : Int32, y = x2 + 1 := ⟨_, rfl⟩
    have h := gf_nm_ok e8 h
    refine lv_iinc (v := a7) (lv' := [(2, .int a7), (0, .ref (hs t0)), (1, .int x1)]) hx hb gd_Model_clearWide_22 hl (k := 2) rfl (by rw [e8]; rfl) (by decide) rfl (fun ls hl => ?_)
    refine lv_goto (tgt := 2) hx hb gd_Model_clearWide_25 (by decide) ?_
    exact k_2 u5 t0 x1 a7 _ _ _ o_t0 hW (lv_sub hl [1, 2, 0] rfl) h
set_option maxHeartbeats 4000000 in
set_option maxRecDepth 20000 in
theorem gx_Model_clearWide_L2 {p : Program} {l : Launch} {e : Env} {s : State} {m : MethodId} {args : Array Value} {below : List Frame} {meth : Method} {c : Code} {D : va_G} {cA : Nat → ClassId} {hs : Nat → Nat} {z : gw_Sh} (F : Nat) {r0 : gw_St} (C : gw_Cx p s m args c gb_Model_clearWide 3 R_Model D cA) (hr : meth.sig.returnType = none) (hk : meth.locks = false) : ∀ (n : Nat), ∀ (u : gw_St) (t0 : Nat) (x1 : Int32) (x2 : Int32) (H : Heap) (locs : List Loc) (ls : Array Slot), gw_ok z t0 9 → gw_Wx D cA hs z s u H locs → lv_has ls 3 [(0, .ref (hs t0)), (1, .int x1), (2, .int x2)] → gf_Model_clearWide_L2 F z  n u t0 x1 x2 = some r0 → gw_Gv p l e gr_Model_clearWide s m args below meth c D cA hs z r0 H locs ls 2 [] := by
  intro n
  induction n with
  | zero =>
    intro u t0 x1 x2 H locs ls o_t0 hW hl h
    cases h
  | succ n ih =>
    intro u t0 x1 x2 H locs ls o_t0 hW hl h
    exact gx_Model_clearWide_S2 F C hr hk  ih u t0 x1 x2 o_t0 hW hl h

set_option maxHeartbeats 4000000 in
set_option maxRecDepth 20000 in
theorem gx_Model_clearWide_b0 {p : Program} {l : Launch} {e : Env} {s : State} {m : MethodId} {args : Array Value} {below : List Frame} {meth : Method} {c : Code} {D : va_G} {cA : Nat → ClassId} {hs : Nat → Nat} {z : gw_Sh} (F : Nat) {r0 : gw_St} (C : gw_Cx p s m args c gb_Model_clearWide 3 R_Model D cA) (hr : meth.sig.returnType = none) (hk : meth.locks = false) (u : gw_St) (t0 : Nat) (x1 : Int32) (o_t0 : gw_ok z t0 9) {H : Heap} {locs : List Loc} {ls : Array Slot} (hW : gw_Wx D cA hs z s u H locs) (hl : lv_has ls 3 [(0, .ref (hs t0)), (1, .int x1)]) (h : gf_Model_clearWide_b0 F z   u t0 x1 = some r0) : gw_Gv p l e gr_Model_clearWide s m args below meth c D cA hs z r0 H locs ls 0 [] := by
  obtain ⟨hx, hb, hml, hown, hts, hK⟩ := id C
  unfold gf_Model_clearWide_b0 at h
  refine lv_iconst (v := 0) hx hb gd_Model_clearWide_0 (by decide) ?_
  refine lv_istore_n (lv' := [(2, .int 0), (0, .ref (hs t0)), (1, .int x1)]) hx hb gd_Model_clearWide_1 rfl hl (by decide) rfl (fun ls hl => ?_)
  exact gx_Model_clearWide_L2 F C hr hk  F u t0 x1 0 _ _ _ o_t0 hW (lv_sub hl [1, 2, 0] rfl) h

set_option maxRecDepth 20000 in
theorem gc_Model_clearWide (l : Launch) {D : va_G} {cA : Nat → ClassId} {hs : Nat → Nat} {z : gw_Sh} (F : Nat) {u : gw_St} {r0 : gw_St} {t0 : Nat} {x1 : Int32} (o_t0 : gw_ok z t0 9) (h : gf_Model_clearWide F z u t0 x1 = some r0) (sz : Nat) : gw_Mv l gy_Model_clearWide gb_Model_clearWide 3 none gr_Model_clearWide [.ref (hs t0), .int x1] D cA hs z u sz r0 := by
  refine gw_enter (by decide) (Nat.le_of_ble_eq_true rfl) ?_
  intro p e s m below meth c ls hsz C hW hr hk _ hl
  subst hsz
  exact gx_Model_clearWide_b0 F C hr hk u t0 x1 o_t0 hW (lv_sub hl [0, 1] rfl) h
-- GearDeskModel.copyWide(II)V
def gy_Model_copyWide : MethodName := ⟨R_Model, "copyWide", "(II)V"⟩
abbrev gb_Model_copyWide : ByteArray := prog_11_method_44_code
theorem gk_528 : Cond.code gy_Model_copyWide gb_Model_copyWide 4 none ∈ gt_T := gt_m7 (List.mem_of_getElem? (i := 150) rfl) rfl
def gr_Model_copyWide : Room := gw_rm 1 64
theorem gm_Model_copyWide : gw_Mth gy_Model_copyWide gb_Model_copyWide 4 none 2 := ⟨gk_528, gk_377, ⟨by decide +kernel, by decide +kernel⟩, by decide +kernel⟩
theorem gd_Model_copyWide_0 : decode gb_Model_copyWide 0 = .ok (.iconst 0, 1) := by decide +kernel
theorem gd_Model_copyWide_1 : decode gb_Model_copyWide 1 = .ok (.istore_n 3, 1) := by decide +kernel
theorem gd_Model_copyWide_2 : decode gb_Model_copyWide 2 = .ok (.iload_n 3, 1) := by decide +kernel
theorem gd_Model_copyWide_3 : decode gb_Model_copyWide 3 = .ok (.sipush 256, 3) := by decide +kernel
theorem gd_Model_copyWide_6 : decode gb_Model_copyWide 6 = .ok (.if_icmp .ge 33, 3) := by decide +kernel
theorem gd_Model_copyWide_9 : decode gb_Model_copyWide 9 = .ok (.aload_n 0, 1) := by decide +kernel
theorem gd_Model_copyWide_10 : decode gb_Model_copyWide 10 = .ok (.getfield 104, 3) := by decide +kernel
theorem gd_Model_copyWide_13 : decode gb_Model_copyWide 13 = .ok (.sipush 256, 3) := by decide +kernel
theorem gd_Model_copyWide_16 : decode gb_Model_copyWide 16 = .ok (.iload_n 1, 1) := by decide +kernel
theorem gd_Model_copyWide_17 : decode gb_Model_copyWide 17 = .ok (.imul, 1) := by decide +kernel
theorem gd_Model_copyWide_18 : decode gb_Model_copyWide 18 = .ok (.iload_n 3, 1) := by decide +kernel
theorem gd_Model_copyWide_19 : decode gb_Model_copyWide 19 = .ok (.iadd, 1) := by decide +kernel
theorem gd_Model_copyWide_20 : decode gb_Model_copyWide 20 = .ok (.aload_n 0, 1) := by decide +kernel
theorem gd_Model_copyWide_21 : decode gb_Model_copyWide 21 = .ok (.getfield 104, 3) := by decide +kernel
theorem gd_Model_copyWide_24 : decode gb_Model_copyWide 24 = .ok (.sipush 256, 3) := by decide +kernel
theorem gd_Model_copyWide_27 : decode gb_Model_copyWide 27 = .ok (.iload_n 2, 1) := by decide +kernel
theorem gd_Model_copyWide_28 : decode gb_Model_copyWide 28 = .ok (.imul, 1) := by decide +kernel
theorem gd_Model_copyWide_29 : decode gb_Model_copyWide 29 = .ok (.iload_n 3, 1) := by decide +kernel
theorem gd_Model_copyWide_30 : decode gb_Model_copyWide 30 = .ok (.iadd, 1) := by decide +kernel
theorem gd_Model_copyWide_31 : decode gb_Model_copyWide 31 = .ok (.laload, 1) := by decide +kernel
theorem gd_Model_copyWide_32 : decode gb_Model_copyWide 32 = .ok (.lastore, 1) := by decide +kernel
theorem gd_Model_copyWide_33 : decode gb_Model_copyWide 33 = .ok (.iinc 3 1, 3) := by decide +kernel
theorem gd_Model_copyWide_36 : decode gb_Model_copyWide 36 = .ok (.goto (-34), 3) := by decide +kernel
theorem gd_Model_copyWide_39 : decode gb_Model_copyWide 39 = .ok (.return_, 1) := by decide +kernel
def gf_Model_copyWide_S2 (F : Nat) (z : gw_Sh)  (rc_2 : gw_St → Nat → Int32 → Int32 → Int32 → Option gw_St) (u : gw_St) (t0 : Nat) (x1 : Int32) (x2 : Int32) (x3 : Int32) : Option gw_St :=
  if (256 : Int32) ≤ x3 then (some u) else (gf_nn (u.2.2 t0 48) fun q2 => gf_nn (u.2.2 t0 48) fun q4 => if ((((256 : Int32) * x2) + x3) < 0 ∨ z.2.2 q4 ≤ ((((256 : Int32) * x2) + x3)).toNatClampNeg) then none else if ((((256 : Int32) * x1) + x3) < 0 ∨ z.2.2 q2 ≤ ((((256 : Int32) * x1) + x3)).toNatClampNeg) then none else gf_nm (gw_wl u q2 ((((256 : Int32) * x1) + x3)).toNatClampNeg (u.2.1 q4 ((((256 : Int32) * x2) + x3)).toNatClampNeg)) fun u8 => gf_nm (x3 + 1) fun a10 => rc_2 u8 t0 x1 x2 a10)
def gf_Model_copyWide_L2 (F : Nat) (z : gw_Sh)  : Nat → gw_St → Nat → Int32 → Int32 → Int32 → Option gw_St
  | 0 => fun _ _ _ _ _ => none
  | n + 1 => fun u t0 x1 x2 x3 => gf_Model_copyWide_S2 F z  (gf_Model_copyWide_L2 F z  n) u t0 x1 x2 x3
def gf_Model_copyWide_b0 (F : Nat) (z : gw_Sh)  (u : gw_St) (t0 : Nat) (x1 : Int32) (x2 : Int32) : Option gw_St :=
  gf_Model_copyWide_L2 F z  F u t0 x1 x2 0
def gf_Model_copyWide (F : Nat) (z : gw_Sh) (u : gw_St) (t0 : Nat) (x1 : Int32) (x2 : Int32) : Option gw_St := gf_Model_copyWide_b0 F z  u t0 x1 x2
set_option maxHeartbeats 4000000 in
set_option maxRecDepth 20000 in
theorem gx_Model_copyWide_S2 {p : Program} {l : Launch} {e : Env} {s : State} {m : MethodId} {args : Array Value} {below : List Frame} {meth : Method} {c : Code} {D : va_G} {cA : Nat → ClassId} {hs : Nat → Nat} {z : gw_Sh} (F : Nat) {r0 : gw_St} (C : gw_Cx p s m args c gb_Model_copyWide 4 R_Model D cA) (hr : meth.sig.returnType = none) (hk : meth.locks = false) {rc_2 : gw_St → Nat → Int32 → Int32 → Int32 → Option gw_St} (k_2 : ∀ (u : gw_St) (t0 : Nat) (x1 : Int32) (x2 : Int32) (x3 : Int32) (H : Heap) (locs : List Loc) (ls : Array Slot), gw_ok z t0 9 → gw_Wx D cA hs z s u H locs → lv_has ls 4 [(0, .ref (hs t0)), (1, .int x1), (2, .int x2), (3, .int x3)] → rc_2 u t0 x1 x2 x3 = some r0 → gw_Gv p l e gr_Model_copyWide s m args below meth c D cA hs z r0 H locs ls 2 []) (u : gw_St) (t0 : Nat) (x1 : Int32) (x2 : Int32) (x3 : Int32) (o_t0 : gw_ok z t0 9) {H : Heap} {locs : List Loc} {ls : Array Slot} (hW : gw_Wx D cA hs z s u H locs) (hl : lv_has ls 4 [(0, .ref (hs t0)), (1, .int x1), (2, .int x2), (3, .int x3)]) (h : gf_Model_copyWide_S2 F z  rc_2 u t0 x1 x2 x3 = some r0) : gw_Gv p l e gr_Model_copyWide s m args below meth c D cA hs z r0 H locs ls 2 [] := by
  obtain ⟨hx, hb, hml, hown, hts, hK⟩ := id C
  unfold gf_Model_copyWide_S2 at h
  refine lv_iload_n hx hb gd_Model_copyWide_2 rfl (lv_at hl 3 rfl) ?_
  refine lv_sipush (v := 256) hx hb gd_Model_copyWide_3 (by decide) ?_
  refine lv_icmp_ge (tgt := 39) hx hb gd_Model_copyWide_6 (by decide) (fun c1 => ?_) (fun c1 => ?_)
  · have h := gf_t c1 h
    obtain rfl := Option.some.inj h
    exact gw_vret C hW hr hk gd_Model_copyWide_39
  · have h := gf_f c1 h
    refine lv_aload_n hx hb gd_Model_copyWide_9 rfl (lv_at hl 0 rfl) ?_
    obtain ⟨q2, e3, h⟩ := gf_nn_ok h
    refine gw_getr (k := 48) (ty := 11) (ref := R_Model) C hW o_t0 (by decide) rfl gi_Model rfl (by decide) rfl rfl gk_526 gd_Model_copyWide_10 e3 ?_
    have o_q2 := hW.ref (d := 11) o_t0 e3 rfl
    refine lv_sipush (v := 256) hx hb gd_Model_copyWide_13 (by decide) ?_
    refine lv_iload_n hx hb gd_Model_copyWide_16 rfl (lv_at hl 1 rfl) ?_
    refine lv_imul hx hb gd_Model_copyWide_17 ?_
    refine lv_iload_n hx hb gd_Model_copyWide_18 rfl (lv_at hl 3 rfl) ?_
    refine lv_iadd hx hb gd_Model_copyWide_19 ?_
    refine lv_aload_n hx hb gd_Model_copyWide_20 rfl (lv_at hl 0 rfl) ?_
    obtain ⟨q4, e5, h⟩ := gf_nn_ok h
    refine gw_getr (k := 48) (ty := 11) (ref := R_Model) C hW o_t0 (by decide) rfl gi_Model rfl (by decide) rfl rfl gk_526 gd_Model_copyWide_21 e5 ?_
    have o_q4 := hW.ref (d := 11) o_t0 e5 rfl
    refine lv_sipush (v := 256) hx hb gd_Model_copyWide_24 (by decide) ?_
    refine lv_iload_n hx hb gd_Model_copyWide_27 rfl (lv_at hl 2 rfl) ?_
    refine lv_imul hx hb gd_Model_copyWide_28 ?_
    refine lv_iload_n hx hb gd_Model_copyWide_29 rfl (lv_at hl 3 rfl) ?_
    refine lv_iadd hx hb gd_Model_copyWide_30 ?_
    obtain ⟨g6, h⟩ := gf_if_ok h
    refine gw_lald C hW o_q4 g6 gd_Model_copyWide_31 ?_
    obtain ⟨g7, h⟩ := gf_if_ok h
    refine gw_last C hW o_q2 g7 gd_Model_copyWide_32 (fun u8 H locs e9 hW => ?_)
    have h := gf_nm_ok e9 h
    obtain ⟨a10, e11⟩ : ∃ y : Int32, y = x3 + 1 := ⟨_, rfl⟩
    have h := gf_nm_ok e11 h
    refine lv_iinc (v := a10) (lv' := [(3, .int a10), (0, .ref (hs t0)), (1, .int x1), (2, .int x2)]) hx hb gd_Model_copyWide_33 hl (k := 3) rfl (by rw [e11]; rfl) (by decide) rfl (fun ls hl => ?_)
    refine lv_goto (tgt := 2) hx hb gd_Model_copyWide_36 (by decide) ?_
    exact k_2 u8 t0 x1 x2 a10 _ _ _ o_t0 hW (lv_sub hl [1, 2, 3, 0] rfl) h
set_option maxHeartbeats 4000000 in
set_option maxRecDepth 20000 in
theorem gx_Model_copyWide_L2 {p : Program} {l : Launch} {e : Env} {s : State} {m : MethodId} {args : Array Value} {below : List Frame} {meth : Method} {c : Code} {D : va_G} {cA : Nat → ClassId} {hs : Nat → Nat} {z : gw_Sh} (F : Nat) {r0 : gw_St} (C : gw_Cx p s m args c gb_Model_copyWide 4 R_Model D cA) (hr : meth.sig.returnType = none) (hk : meth.locks = false) : ∀ (n : Nat), ∀ (u : gw_St) (t0 : Nat) (x1 : Int32) (x2 : Int32) (x3 : Int32) (H : Heap) (locs : List Loc) (ls : Array Slot), gw_ok z t0 9 → gw_Wx D cA hs z s u H locs → lv_has ls 4 [(0, .ref (hs t0)), (1, .int x1), (2, .int x2), (3, .int x3)] → gf_Model_copyWide_L2 F z  n u t0 x1 x2 x3 = some r0 → gw_Gv p l e gr_Model_copyWide s m args below meth c D cA hs z r0 H locs ls 2 [] := by
  intro n
  induction n with
  | zero =>
    intro u t0 x1 x2 x3 H locs ls o_t0 hW hl h
    cases h
  | succ n ih =>
    intro u t0 x1 x2 x3 H locs ls o_t0 hW hl h
    exact gx_Model_copyWide_S2 F C hr hk  ih u t0 x1 x2 x3 o_t0 hW hl h

set_option maxHeartbeats 4000000 in
set_option maxRecDepth 20000 in
theorem gx_Model_copyWide_b0 {p : Program} {l : Launch} {e : Env} {s : State} {m : MethodId} {args : Array Value} {below : List Frame} {meth : Method} {c : Code} {D : va_G} {cA : Nat → ClassId} {hs : Nat → Nat} {z : gw_Sh} (F : Nat) {r0 : gw_St} (C : gw_Cx p s m args c gb_Model_copyWide 4 R_Model D cA) (hr : meth.sig.returnType = none) (hk : meth.locks = false) (u : gw_St) (t0 : Nat) (x1 : Int32) (x2 : Int32) (o_t0 : gw_ok z t0 9) {H : Heap} {locs : List Loc} {ls : Array Slot} (hW : gw_Wx D cA hs z s u H locs) (hl : lv_has ls 4 [(0, .ref (hs t0)), (1, .int x1), (2, .int x2)]) (h : gf_Model_copyWide_b0 F z   u t0 x1 x2 = some r0) : gw_Gv p l e gr_Model_copyWide s m args below meth c D cA hs z r0 H locs ls 0 [] := by
  obtain ⟨hx, hb, hml, hown, hts, hK⟩ := id C
  unfold gf_Model_copyWide_b0 at h
  refine lv_iconst (v := 0) hx hb gd_Model_copyWide_0 (by decide) ?_
  refine lv_istore_n (lv' := [(3, .int 0), (0, .ref (hs t0)), (1, .int x1), (2, .int x2)]) hx hb gd_Model_copyWide_1 rfl hl (by decide) rfl (fun ls hl => ?_)
  exact gx_Model_copyWide_L2 F C hr hk  F u t0 x1 x2 0 _ _ _ o_t0 hW (lv_sub hl [1, 2, 3, 0] rfl) h

set_option maxRecDepth 20000 in
theorem gc_Model_copyWide (l : Launch) {D : va_G} {cA : Nat → ClassId} {hs : Nat → Nat} {z : gw_Sh} (F : Nat) {u : gw_St} {r0 : gw_St} {t0 : Nat} {x1 : Int32} {x2 : Int32} (o_t0 : gw_ok z t0 9) (h : gf_Model_copyWide F z u t0 x1 x2 = some r0) (sz : Nat) : gw_Mv l gy_Model_copyWide gb_Model_copyWide 4 none gr_Model_copyWide [.ref (hs t0), .int x1, .int x2] D cA hs z u sz r0 := by
  refine gw_enter (by decide) (Nat.le_of_ble_eq_true rfl) ?_
  intro p e s m below meth c ls hsz C hW hr hk _ hl
  subst hsz
  exact gx_Model_copyWide_b0 F C hr hk u t0 x1 x2 o_t0 hW (lv_sub hl [0, 1, 2] rfl) h
-- GearDeskModel.size(I)I
def gy_Model_size : MethodName := ⟨R_Model, "size", "(I)I"⟩
abbrev gb_Model_size : ByteArray := prog_11_method_45_code
theorem gk_529 : Cond.code gy_Model_size gb_Model_size 3 (some .int) ∈ gt_T := gt_m7 (List.mem_of_getElem? (i := 170) rfl) rfl
def gr_Model_size : Room := gw_rm 1 64
theorem gm_Model_size : gw_Mth gy_Model_size gb_Model_size 3 (some .int) 1 := ⟨gk_529, gk_377, ⟨by decide +kernel, by decide +kernel⟩, by decide +kernel⟩
theorem gd_Model_size_0 : decode gb_Model_size 0 = .ok (.sipush 256, 3) := by decide +kernel
theorem gd_Model_size_3 : decode gb_Model_size 3 = .ok (.istore_n 2, 1) := by decide +kernel
theorem gd_Model_size_4 : decode gb_Model_size 4 = .ok (.iload_n 2, 1) := by decide +kernel
theorem gd_Model_size_5 : decode gb_Model_size 5 = .ok (.ifCond .le 28, 3) := by decide +kernel
theorem gd_Model_size_8 : decode gb_Model_size 8 = .ok (.aload_n 0, 1) := by decide +kernel
theorem gd_Model_size_9 : decode gb_Model_size 9 = .ok (.getfield 104, 3) := by decide +kernel
theorem gd_Model_size_12 : decode gb_Model_size 12 = .ok (.sipush 256, 3) := by decide +kernel
theorem gd_Model_size_15 : decode gb_Model_size 15 = .ok (.iload_n 1, 1) := by decide +kernel
theorem gd_Model_size_16 : decode gb_Model_size 16 = .ok (.imul, 1) := by decide +kernel
theorem gd_Model_size_17 : decode gb_Model_size 17 = .ok (.iload_n 2, 1) := by decide +kernel
theorem gd_Model_size_18 : decode gb_Model_size 18 = .ok (.iadd, 1) := by decide +kernel
theorem gd_Model_size_19 : decode gb_Model_size 19 = .ok (.iconst 1, 1) := by decide +kernel
theorem gd_Model_size_20 : decode gb_Model_size 20 = .ok (.isub, 1) := by decide +kernel
theorem gd_Model_size_21 : decode gb_Model_size 21 = .ok (.laload, 1) := by decide +kernel
theorem gd_Model_size_22 : decode gb_Model_size 22 = .ok (.lconst 0, 1) := by decide +kernel
theorem gd_Model_size_23 : decode gb_Model_size 23 = .ok (.lcmp, 1) := by decide +kernel
theorem gd_Model_size_24 : decode gb_Model_size 24 = .ok (.ifCond .ne 9, 3) := by decide +kernel
theorem gd_Model_size_27 : decode gb_Model_size 27 = .ok (.iinc 2 (-1), 3) := by decide +kernel
theorem gd_Model_size_30 : decode gb_Model_size 30 = .ok (.goto (-26), 3) := by decide +kernel
theorem gd_Model_size_33 : decode gb_Model_size 33 = .ok (.iload_n 2, 1) := by decide +kernel
theorem gd_Model_size_34 : decode gb_Model_size 34 = .ok (.ireturn, 1) := by decide +kernel
def gf_Model_size_b33 (F : Nat) (z : gw_Sh)  (u : gw_St) (x2 : Int32) : Option (Int32 × gw_St) :=
  some (x2, u)
def gf_Model_size_S4 (F : Nat) (z : gw_Sh)  (rc_4 : gw_St → Nat → Int32 → Int32 → Option (Int32 × gw_St)) (u : gw_St) (t0 : Nat) (x1 : Int32) (x2 : Int32) : Option (Int32 × gw_St) :=
  if x2 ≤ 0 then (gf_Model_size_b33 F z  u x2) else (gf_nn (u.2.2 t0 48) fun q2 => if (((((256 : Int32) * x1) + x2) - (1 : Int32)) < 0 ∨ z.2.2 q2 ≤ (((((256 : Int32) * x1) + x2) - (1 : Int32))).toNatClampNeg) then none else if (lg_cmp (u.2.1 q2 (((((256 : Int32) * x1) + x2) - (1 : Int32))).toNatClampNeg) (0 : Int64)) = 0 then (gf_nm (x2 + (-1)) fun a6 => rc_4 u t0 x1 a6) else (gf_Model_size_b33 F z  u x2))
def gf_Model_size_L4 (F : Nat) (z : gw_Sh)  : Nat → gw_St → Nat → Int32 → Int32 → Option (Int32 × gw_St)
  | 0 => fun _ _ _ _ => none
  | n + 1 => fun u t0 x1 x2 => gf_Model_size_S4 F z  (gf_Model_size_L4 F z  n) u t0 x1 x2
def gf_Model_size_b0 (F : Nat) (z : gw_Sh)  (u : gw_St) (t0 : Nat) (x1 : Int32) : Option (Int32 × gw_St) :=
  gf_Model_size_L4 F z  F u t0 x1 256
def gf_Model_size (F : Nat) (z : gw_Sh) (u : gw_St) (t0 : Nat) (x1 : Int32) : Option (Int32 × gw_St) := gf_Model_size_b0 F z  u t0 x1
set_option maxHeartbeats 4000000 in
set_option maxRecDepth 20000 in
theorem gx_Model_size_b33 {p : Program} {l : Launch} {e : Env} {s : State} {m : MethodId} {args : Array Value} {below : List Frame} {meth : Method} {c : Code} {D : va_G} {cA : Nat → ClassId} {hs : Nat → Nat} {z : gw_Sh} (F : Nat) {r0 : (Int32 × gw_St)} (C : gw_Cx p s m args c gb_Model_size 3 R_Model D cA) (hr : meth.sig.returnType = (some .int)) (hk : meth.locks = false) (u : gw_St) (x2 : Int32)  {H : Heap} {locs : List Loc} {ls : Array Slot} (hW : gw_Wx D cA hs z s u H locs) (hl : lv_has ls 3 [(2, .int x2)]) (h : gf_Model_size_b33 F z   u x2 = some r0) : gw_Gi p l e gr_Model_size s m args below meth c D cA hs z r0 H locs ls 33 [] := by
  obtain ⟨hx, hb, hml, hown, hts, hK⟩ := id C
  unfold gf_Model_size_b33 at h
  refine lv_iload_n hx hb gd_Model_size_33 rfl (lv_at hl 0 rfl) ?_
  obtain rfl := Option.some.inj h
  exact gw_iret C hW hr hk gd_Model_size_34

set_option maxHeartbeats 4000000 in
set_option maxRecDepth 20000 in
theorem gx_Model_size_S4 {p : Program} {l : Launch} {e : Env} {s : State} {m : MethodId} {args : Array Value} {below : List Frame} {meth : Method} {c : Code} {D : va_G} {cA : Nat → ClassId} {hs : Nat → Nat} {z : gw_Sh} (F : Nat) {r0 : (Int32 × gw_St)} (C : gw_Cx p s m args c gb_Model_size 3 R_Model D cA) (hr : meth.sig.returnType = (some .int)) (hk : meth.locks = false) {rc_4 : gw_St → Nat → Int32 → Int32 → Option (Int32 × gw_St)} (k_4 : ∀ (u : gw_St) (t0 : Nat) (x1 : Int32) (x2 : Int32) (H : Heap) (locs : List Loc) (ls : Array Slot), gw_ok z t0 9 → gw_Wx D cA hs z s u H locs → lv_has ls 3 [(0, .ref (hs t0)), (1, .int x1), (2, .int x2)] → rc_4 u t0 x1 x2 = some r0 → gw_Gi p l e gr_Model_size s m args below meth c D cA hs z r0 H locs ls 4 []) (u : gw_St) (t0 : Nat) (x1 : Int32) (x2 : Int32) (o_t0 : gw_ok z t0 9) {H : Heap} {locs : List Loc} {ls : Array Slot} (hW : gw_Wx D cA hs z s u H locs) (hl : lv_has ls 3 [(0, .ref (hs t0)), (1, .int x1), (2, .int x2)]) (h : gf_Model_size_S4 F z  rc_4 u t0 x1 x2 = some r0) : gw_Gi p l e gr_Model_size s m args below meth c D cA hs z r0 H locs ls 4 [] := by
  obtain ⟨hx, hb, hml, hown, hts, hK⟩ := id C
  unfold gf_Model_size_S4 at h
  refine lv_iload_n hx hb gd_Model_size_4 rfl (lv_at hl 2 rfl) ?_
  refine lv_if_le (tgt := 33) hx hb gd_Model_size_5 (by decide) (fun c1 => ?_) (fun c1 => ?_)
  · have h := gf_t c1 h
    exact gx_Model_size_b33 F C hr hk  u x2  hW (lv_sub hl [2] rfl) h
  · have h := gf_f c1 h
    refine lv_aload_n hx hb gd_Model_size_8 rfl (lv_at hl 0 rfl) ?_
    obtain ⟨q2, e3, h⟩ := gf_nn_ok h
    refine gw_getr (k := 48) (ty := 11) (ref := R_Model) C hW o_t0 (by decide) rfl gi_Model rfl (by decide) rfl rfl gk_526 gd_Model_size_9 e3 ?_
    have o_q2 := hW.ref (d := 11) o_t0 e3 rfl
    refine lv_sipush (v := 256) hx hb gd_Model_size_12 (by decide) ?_
    refine lv_iload_n hx hb gd_Model_size_15 rfl (lv_at hl 1 rfl) ?_
    refine lv_imul hx hb gd_Model_size_16 ?_
    refine lv_iload_n hx hb gd_Model_size_17 rfl (lv_at hl 2 rfl) ?_
    refine lv_iadd hx hb gd_Model_size_18 ?_
    refine lv_iconst (v := 1) hx hb gd_Model_size_19 (by decide) ?_
    refine lv_isub hx hb gd_Model_size_20 ?_
    obtain ⟨g4, h⟩ := gf_if_ok h
    refine gw_lald C hW o_q2 g4 gd_Model_size_21 ?_
    refine lv_lconst (v := 0) hx hb gd_Model_size_22 (by decide) ?_
    refine W.lcmp hx hb gd_Model_size_23 ?_
    refine lv_if_ne (tgt := 33) hx hb gd_Model_size_24 (by decide) (fun c5 => ?_) (fun c5 => ?_)
    · have h := gf_f c5 h
      exact gx_Model_size_b33 F C hr hk  u x2  hW (lv_sub hl [2] rfl) h
    · have h := gf_t c5 h
      obtain ⟨a6, e7⟩ : ∃ y : Int32, y = x2 + (-1) := ⟨_, rfl⟩
      have h := gf_nm_ok e7 h
      refine lv_iinc (v := a6) (lv' := [(2, .int a6), (0, .ref (hs t0)), (1, .int x1)]) hx hb gd_Model_size_27 hl (k := 2) rfl (by rw [e7]; rfl) (by decide) rfl (fun ls hl => ?_)
      refine lv_goto (tgt := 4) hx hb gd_Model_size_30 (by decide) ?_
      exact k_4 u t0 x1 a6 _ _ _ o_t0 hW (lv_sub hl [1, 2, 0] rfl) h
set_option maxHeartbeats 4000000 in
set_option maxRecDepth 20000 in
theorem gx_Model_size_L4 {p : Program} {l : Launch} {e : Env} {s : State} {m : MethodId} {args : Array Value} {below : List Frame} {meth : Method} {c : Code} {D : va_G} {cA : Nat → ClassId} {hs : Nat → Nat} {z : gw_Sh} (F : Nat) {r0 : (Int32 × gw_St)} (C : gw_Cx p s m args c gb_Model_size 3 R_Model D cA) (hr : meth.sig.returnType = (some .int)) (hk : meth.locks = false) : ∀ (n : Nat), ∀ (u : gw_St) (t0 : Nat) (x1 : Int32) (x2 : Int32) (H : Heap) (locs : List Loc) (ls : Array Slot), gw_ok z t0 9 → gw_Wx D cA hs z s u H locs → lv_has ls 3 [(0, .ref (hs t0)), (1, .int x1), (2, .int x2)] → gf_Model_size_L4 F z  n u t0 x1 x2 = some r0 → gw_Gi p l e gr_Model_size s m args below meth c D cA hs z r0 H locs ls 4 [] := by
  intro n
  induction n with
  | zero =>
    intro u t0 x1 x2 H locs ls o_t0 hW hl h
    cases h
  | succ n ih =>
    intro u t0 x1 x2 H locs ls o_t0 hW hl h
    exact gx_Model_size_S4 F C hr hk  ih u t0 x1 x2 o_t0 hW hl h

set_option maxHeartbeats 4000000 in
set_option maxRecDepth 20000 in
theorem gx_Model_size_b0 {p : Program} {l : Launch} {e : Env} {s : State} {m : MethodId} {args : Array Value} {below : List Frame} {meth : Method} {c : Code} {D : va_G} {cA : Nat → ClassId} {hs : Nat → Nat} {z : gw_Sh} (F : Nat) {r0 : (Int32 × gw_St)} (C : gw_Cx p s m args c gb_Model_size 3 R_Model D cA) (hr : meth.sig.returnType = (some .int)) (hk : meth.locks = false) (u : gw_St) (t0 : Nat) (x1 : Int32) (o_t0 : gw_ok z t0 9) {H : Heap} {locs : List Loc} {ls : Array Slot} (hW : gw_Wx D cA hs z s u H locs) (hl : lv_has ls 3 [(0, .ref (hs t0)), (1, .int x1)]) (h : gf_Model_size_b0 F z   u t0 x1 = some r0) : gw_Gi p l e gr_Model_size s m args below meth c D cA hs z r0 H locs ls 0 [] := by
  obtain ⟨hx, hb, hml, hown, hts, hK⟩ := id C
  unfold gf_Model_size_b0 at h
  refine lv_sipush (v := 256) hx hb gd_Model_size_0 (by decide) ?_
  refine lv_istore_n (lv' := [(2, .int 256), (0, .ref (hs t0)), (1, .int x1)]) hx hb gd_Model_size_3 rfl hl (by decide) rfl (fun ls hl => ?_)
  exact gx_Model_size_L4 F C hr hk  F u t0 x1 256 _ _ _ o_t0 hW (lv_sub hl [1, 2, 0] rfl) h

set_option maxRecDepth 20000 in
theorem gc_Model_size (l : Launch) {D : va_G} {cA : Nat → ClassId} {hs : Nat → Nat} {z : gw_Sh} (F : Nat) {u : gw_St} {r0 : (Int32 × gw_St)} {t0 : Nat} {x1 : Int32} (o_t0 : gw_ok z t0 9) (h : gf_Model_size F z u t0 x1 = some r0) (sz : Nat) : gw_Mi l gy_Model_size gb_Model_size 3 (some .int) gr_Model_size [.ref (hs t0), .int x1] D cA hs z u sz r0 := by
  refine gw_enter (by decide) (Nat.le_of_ble_eq_true rfl) ?_
  intro p e s m below meth c ls hsz C hW hr hk _ hl
  subst hsz
  exact gx_Model_size_b0 F C hr hk u t0 x1 o_t0 hW (lv_sub hl [0, 1] rfl) h
-- GearDeskModel.bits(I)I
theorem gk_530 : Cond.methodLink R_Model 260 gy_Model_size ∈ gt_T := gt_m7 (List.mem_of_getElem? (i := 167) rfl) rfl
theorem gk_531 : Cond.instanceMethod gy_Model_size ∈ gt_T := gt_m7 (List.mem_of_getElem? (i := 169) rfl) rfl
theorem gk_532 : Cond.selects R_Model gy_Model_size gy_Model_size ∈ gt_T := gt_p5 (List.mem_of_getElem? (i := 0) rfl) rfl
def gy_Model_bits : MethodName := ⟨R_Model, "bits", "(I)I"⟩
abbrev gb_Model_bits : ByteArray := prog_11_method_46_code
theorem gk_533 : Cond.code gy_Model_bits gb_Model_bits 4 (some .int) ∈ gt_T := gt_m7 (List.mem_of_getElem? (i := 166) rfl) rfl
def gr_Model_bits : Room := gw_rm 2 86
theorem gm_Model_bits : gw_Mth gy_Model_bits gb_Model_bits 4 (some .int) 1 := ⟨gk_533, gk_377, ⟨by decide +kernel, by decide +kernel⟩, by decide +kernel⟩
theorem gd_Model_bits_0 : decode gb_Model_bits 0 = .ok (.aload_n 0, 1) := by decide +kernel
theorem gd_Model_bits_1 : decode gb_Model_bits 1 = .ok (.iload_n 1, 1) := by decide +kernel
theorem gd_Model_bits_2 : decode gb_Model_bits 2 = .ok (.invokevirtual 260, 3) := by decide +kernel
theorem gd_Model_bits_5 : decode gb_Model_bits 5 = .ok (.istore_n 2, 1) := by decide +kernel
theorem gd_Model_bits_6 : decode gb_Model_bits 6 = .ok (.iconst 0, 1) := by decide +kernel
theorem gd_Model_bits_7 : decode gb_Model_bits 7 = .ok (.istore_n 3, 1) := by decide +kernel
theorem gd_Model_bits_8 : decode gb_Model_bits 8 = .ok (.iload_n 2, 1) := by decide +kernel
theorem gd_Model_bits_9 : decode gb_Model_bits 9 = .ok (.ifCond .le 30, 3) := by decide +kernel
theorem gd_Model_bits_12 : decode gb_Model_bits 12 = .ok (.aload_n 0, 1) := by decide +kernel
theorem gd_Model_bits_13 : decode gb_Model_bits 13 = .ok (.getfield 104, 3) := by decide +kernel
theorem gd_Model_bits_16 : decode gb_Model_bits 16 = .ok (.sipush 256, 3) := by decide +kernel
theorem gd_Model_bits_19 : decode gb_Model_bits 19 = .ok (.iload_n 1, 1) := by decide +kernel
theorem gd_Model_bits_20 : decode gb_Model_bits 20 = .ok (.imul, 1) := by decide +kernel
theorem gd_Model_bits_21 : decode gb_Model_bits 21 = .ok (.iload_n 2, 1) := by decide +kernel
theorem gd_Model_bits_22 : decode gb_Model_bits 22 = .ok (.iadd, 1) := by decide +kernel
theorem gd_Model_bits_23 : decode gb_Model_bits 23 = .ok (.iconst 1, 1) := by decide +kernel
theorem gd_Model_bits_24 : decode gb_Model_bits 24 = .ok (.isub, 1) := by decide +kernel
theorem gd_Model_bits_25 : decode gb_Model_bits 25 = .ok (.laload, 1) := by decide +kernel
theorem gd_Model_bits_26 : decode gb_Model_bits 26 = .ok (.iload_n 3, 1) := by decide +kernel
theorem gd_Model_bits_27 : decode gb_Model_bits 27 = .ok (.lshr, 1) := by decide +kernel
theorem gd_Model_bits_28 : decode gb_Model_bits 28 = .ok (.lconst 0, 1) := by decide +kernel
theorem gd_Model_bits_29 : decode gb_Model_bits 29 = .ok (.lcmp, 1) := by decide +kernel
theorem gd_Model_bits_30 : decode gb_Model_bits 30 = .ok (.ifCond .eq 9, 3) := by decide +kernel
theorem gd_Model_bits_33 : decode gb_Model_bits 33 = .ok (.iinc 3 1, 3) := by decide +kernel
theorem gd_Model_bits_36 : decode gb_Model_bits 36 = .ok (.goto (-28), 3) := by decide +kernel
theorem gd_Model_bits_39 : decode gb_Model_bits 39 = .ok (.iload_n 2, 1) := by decide +kernel
theorem gd_Model_bits_40 : decode gb_Model_bits 40 = .ok (.ifCond .ne 7, 3) := by decide +kernel
theorem gd_Model_bits_43 : decode gb_Model_bits 43 = .ok (.iconst 0, 1) := by decide +kernel
theorem gd_Model_bits_44 : decode gb_Model_bits 44 = .ok (.goto 11, 3) := by decide +kernel
theorem gd_Model_bits_47 : decode gb_Model_bits 47 = .ok (.bipush 16, 2) := by decide +kernel
theorem gd_Model_bits_49 : decode gb_Model_bits 49 = .ok (.iload_n 2, 1) := by decide +kernel
theorem gd_Model_bits_50 : decode gb_Model_bits 50 = .ok (.iconst 1, 1) := by decide +kernel
theorem gd_Model_bits_51 : decode gb_Model_bits 51 = .ok (.isub, 1) := by decide +kernel
theorem gd_Model_bits_52 : decode gb_Model_bits 52 = .ok (.imul, 1) := by decide +kernel
theorem gd_Model_bits_53 : decode gb_Model_bits 53 = .ok (.iload_n 3, 1) := by decide +kernel
theorem gd_Model_bits_54 : decode gb_Model_bits 54 = .ok (.iadd, 1) := by decide +kernel
theorem gd_Model_bits_55 : decode gb_Model_bits 55 = .ok (.ireturn, 1) := by decide +kernel
def gf_Model_bits_b55 (F : Nat) (z : gw_Sh)  (u : gw_St) (sx0 : Int32) : Option (Int32 × gw_St) :=
  some (sx0, u)
def gf_Model_bits_b39 (F : Nat) (z : gw_Sh)  (u : gw_St) (x2 : Int32) (x3 : Int32) : Option (Int32 × gw_St) :=
  if x2 = 0 then (gf_Model_bits_b55 F z  u 0) else (gf_Model_bits_b55 F z  u (((16 : Int32) * (x2 - (1 : Int32))) + x3))
def gf_Model_bits_S8 (F : Nat) (z : gw_Sh)  (rc_8 : gw_St → Nat → Int32 → Int32 → Int32 → Option (Int32 × gw_St)) (u : gw_St) (t0 : Nat) (x1 : Int32) (x2 : Int32) (x3 : Int32) : Option (Int32 × gw_St) :=
  if x2 ≤ 0 then (gf_Model_bits_b39 F z  u x2 x3) else (gf_nn (u.2.2 t0 48) fun q3 => if (((((256 : Int32) * x1) + x2) - (1 : Int32)) < 0 ∨ z.2.2 q3 ≤ (((((256 : Int32) * x1) + x2) - (1 : Int32))).toNatClampNeg) then none else if (lg_cmp ((u.2.1 q3 (((((256 : Int32) * x1) + x2) - (1 : Int32))).toNatClampNeg) >>> ((x3).toInt64 &&& 63)) (0 : Int64)) = 0 then (gf_Model_bits_b39 F z  u x2 x3) else (gf_nm (x3 + 1) fun a7 => rc_8 u t0 x1 x2 a7))
def gf_Model_bits_L8 (F : Nat) (z : gw_Sh)  : Nat → gw_St → Nat → Int32 → Int32 → Int32 → Option (Int32 × gw_St)
  | 0 => fun _ _ _ _ _ => none
  | n + 1 => fun u t0 x1 x2 x3 => gf_Model_bits_S8 F z  (gf_Model_bits_L8 F z  n) u t0 x1 x2 x3
def gf_Model_bits_b0 (F : Nat) (z : gw_Sh)  (u : gw_St) (t0 : Nat) (x1 : Int32) : Option (Int32 × gw_St) :=
  gf_cl (gf_Model_size F z u t0 x1) fun a11 u9 => gf_Model_bits_L8 F z  F u9 t0 x1 a11 0
def gf_Model_bits (F : Nat) (z : gw_Sh) (u : gw_St) (t0 : Nat) (x1 : Int32) : Option (Int32 × gw_St) := gf_Model_bits_b0 F z  u t0 x1
set_option maxHeartbeats 4000000 in
set_option maxRecDepth 20000 in
theorem gx_Model_bits_b55 {p : Program} {l : Launch} {e : Env} {s : State} {m : MethodId} {args : Array Value} {below : List Frame} {meth : Method} {c : Code} {D : va_G} {cA : Nat → ClassId} {hs : Nat → Nat} {z : gw_Sh} (F : Nat) {r0 : (Int32 × gw_St)} (C : gw_Cx p s m args c gb_Model_bits 4 R_Model D cA) (hr : meth.sig.returnType = (some .int)) (hk : meth.locks = false) (u : gw_St) (sx0 : Int32)  {H : Heap} {locs : List Loc} {ls : Array Slot} (hW : gw_Wx D cA hs z s u H locs) (hl : lv_has ls 4 []) (h : gf_Model_bits_b55 F z   u sx0 = some r0) : gw_Gi p l e gr_Model_bits s m args below meth c D cA hs z r0 H locs ls 55 [.int sx0] := by
  obtain ⟨hx, hb, hml, hown, hts, hK⟩ := id C
  unfold gf_Model_bits_b55 at h
  obtain rfl := Option.some.inj h
  exact gw_iret C hW hr hk gd_Model_bits_55

set_option maxHeartbeats 4000000 in
set_option maxRecDepth 20000 in
theorem gx_Model_bits_b39 {p : Program} {l : Launch} {e : Env} {s : State} {m : MethodId} {args : Array Value} {below : List Frame} {meth : Method} {c : Code} {D : va_G} {cA : Nat → ClassId} {hs : Nat → Nat} {z : gw_Sh} (F : Nat) {r0 : (Int32 × gw_St)} (C : gw_Cx p s m args c gb_Model_bits 4 R_Model D cA) (hr : meth.sig.returnType = (some .int)) (hk : meth.locks = false) (u : gw_St) (x2 : Int32) (x3 : Int32)  {H : Heap} {locs : List Loc} {ls : Array Slot} (hW : gw_Wx D cA hs z s u H locs) (hl : lv_has ls 4 [(2, .int x2), (3, .int x3)]) (h : gf_Model_bits_b39 F z   u x2 x3 = some r0) : gw_Gi p l e gr_Model_bits s m args below meth c D cA hs z r0 H locs ls 39 [] := by
  obtain ⟨hx, hb, hml, hown, hts, hK⟩ := id C
  unfold gf_Model_bits_b39 at h
  refine lv_iload_n hx hb gd_Model_bits_39 rfl (lv_at hl 0 rfl) ?_
  refine lv_if_ne (tgt := 47) hx hb gd_Model_bits_40 (by decide) (fun c1 => ?_) (fun c1 => ?_)
  · have h := gf_f c1 h
    refine lv_bipush (v := 16) hx hb gd_Model_bits_47 (by decide) ?_
    refine lv_iload_n hx hb gd_Model_bits_49 rfl (lv_at hl 0 rfl) ?_
    refine lv_iconst (v := 1) hx hb gd_Model_bits_50 (by decide) ?_
    refine lv_isub hx hb gd_Model_bits_51 ?_
    refine lv_imul hx hb gd_Model_bits_52 ?_
    refine lv_iload_n hx hb gd_Model_bits_53 rfl (lv_at hl 1 rfl) ?_
    refine lv_iadd hx hb gd_Model_bits_54 ?_
    exact gx_Model_bits_b55 F C hr hk  u (((16 : Int32) * (x2 - (1 : Int32))) + x3)  hW (lv_sub hl [] rfl) h
  · have h := gf_t c1 h
    refine lv_iconst (v := 0) hx hb gd_Model_bits_43 (by decide) ?_
    refine lv_goto (tgt := 55) hx hb gd_Model_bits_44 (by decide) ?_
    exact gx_Model_bits_b55 F C hr hk  u 0  hW (lv_sub hl [] rfl) h

set_option maxHeartbeats 4000000 in
set_option maxRecDepth 20000 in
theorem gx_Model_bits_S8 {p : Program} {l : Launch} {e : Env} {s : State} {m : MethodId} {args : Array Value} {below : List Frame} {meth : Method} {c : Code} {D : va_G} {cA : Nat → ClassId} {hs : Nat → Nat} {z : gw_Sh} (F : Nat) {r0 : (Int32 × gw_St)} (C : gw_Cx p s m args c gb_Model_bits 4 R_Model D cA) (hr : meth.sig.returnType = (some .int)) (hk : meth.locks = false) {rc_8 : gw_St → Nat → Int32 → Int32 → Int32 → Option (Int32 × gw_St)} (k_8 : ∀ (u : gw_St) (t0 : Nat) (x1 : Int32) (x2 : Int32) (x3 : Int32) (H : Heap) (locs : List Loc) (ls : Array Slot), gw_ok z t0 9 → gw_Wx D cA hs z s u H locs → lv_has ls 4 [(0, .ref (hs t0)), (1, .int x1), (2, .int x2), (3, .int x3)] → rc_8 u t0 x1 x2 x3 = some r0 → gw_Gi p l e gr_Model_bits s m args below meth c D cA hs z r0 H locs ls 8 []) (u : gw_St) (t0 : Nat) (x1 : Int32) (x2 : Int32) (x3 : Int32) (o_t0 : gw_ok z t0 9) {H : Heap} {locs : List Loc} {ls : Array Slot} (hW : gw_Wx D cA hs z s u H locs) (hl : lv_has ls 4 [(0, .ref (hs t0)), (1, .int x1), (2, .int x2), (3, .int x3)]) (h : gf_Model_bits_S8 F z  rc_8 u t0 x1 x2 x3 = some r0) : gw_Gi p l e gr_Model_bits s m args below meth c D cA hs z r0 H locs ls 8 [] := by
  obtain ⟨hx, hb, hml, hown, hts, hK⟩ := id C
  unfold gf_Model_bits_S8 at h
  refine lv_iload_n hx hb gd_Model_bits_8 rfl (lv_at hl 2 rfl) ?_
  refine lv_if_le (tgt := 39) hx hb gd_Model_bits_9 (by decide) (fun c2 => ?_) (fun c2 => ?_)
  · have h := gf_t c2 h
    exact gx_Model_bits_b39 F C hr hk  u x2 x3  hW (lv_sub hl [2, 3] rfl) h
  · have h := gf_f c2 h
    refine lv_aload_n hx hb gd_Model_bits_12 rfl (lv_at hl 0 rfl) ?_
    obtain ⟨q3, e4, h⟩ := gf_nn_ok h
    refine gw_getr (k := 48) (ty := 11) (ref := R_Model) C hW o_t0 (by decide) rfl gi_Model rfl (by decide) rfl rfl gk_526 gd_Model_bits_13 e4 ?_
    have o_q3 := hW.ref (d := 11) o_t0 e4 rfl
    refine lv_sipush (v := 256) hx hb gd_Model_bits_16 (by decide) ?_
    refine lv_iload_n hx hb gd_Model_bits_19 rfl (lv_at hl 1 rfl) ?_
    refine lv_imul hx hb gd_Model_bits_20 ?_
    refine lv_iload_n hx hb gd_Model_bits_21 rfl (lv_at hl 2 rfl) ?_
    refine lv_iadd hx hb gd_Model_bits_22 ?_
    refine lv_iconst (v := 1) hx hb gd_Model_bits_23 (by decide) ?_
    refine lv_isub hx hb gd_Model_bits_24 ?_
    obtain ⟨g5, h⟩ := gf_if_ok h
    refine gw_lald C hW o_q3 g5 gd_Model_bits_25 ?_
    refine lv_iload_n hx hb gd_Model_bits_26 rfl (lv_at hl 3 rfl) ?_
    refine lv_lshr hx hb gd_Model_bits_27 rfl ?_
    refine lv_lconst (v := 0) hx hb gd_Model_bits_28 (by decide) ?_
    refine W.lcmp hx hb gd_Model_bits_29 ?_
    refine lv_if_eq (tgt := 39) hx hb gd_Model_bits_30 (by decide) (fun c6 => ?_) (fun c6 => ?_)
    · have h := gf_t c6 h
      exact gx_Model_bits_b39 F C hr hk  u x2 x3  hW (lv_sub hl [2, 3] rfl) h
    · have h := gf_f c6 h
      obtain ⟨a7, e8⟩ : ∃ y : Int32, y = x3 + 1 := ⟨_, rfl⟩
      have h := gf_nm_ok e8 h
      refine lv_iinc (v := a7) (lv' := [(3, .int a7), (0, .ref (hs t0)), (1, .int x1), (2, .int x2)]) hx hb gd_Model_bits_33 hl (k := 3) rfl (by rw [e8]; rfl) (by decide) rfl (fun ls hl => ?_)
      refine lv_goto (tgt := 8) hx hb gd_Model_bits_36 (by decide) ?_
      exact k_8 u t0 x1 x2 a7 _ _ _ o_t0 hW (lv_sub hl [1, 2, 3, 0] rfl) h
set_option maxHeartbeats 4000000 in
set_option maxRecDepth 20000 in
theorem gx_Model_bits_L8 {p : Program} {l : Launch} {e : Env} {s : State} {m : MethodId} {args : Array Value} {below : List Frame} {meth : Method} {c : Code} {D : va_G} {cA : Nat → ClassId} {hs : Nat → Nat} {z : gw_Sh} (F : Nat) {r0 : (Int32 × gw_St)} (C : gw_Cx p s m args c gb_Model_bits 4 R_Model D cA) (hr : meth.sig.returnType = (some .int)) (hk : meth.locks = false) : ∀ (n : Nat), ∀ (u : gw_St) (t0 : Nat) (x1 : Int32) (x2 : Int32) (x3 : Int32) (H : Heap) (locs : List Loc) (ls : Array Slot), gw_ok z t0 9 → gw_Wx D cA hs z s u H locs → lv_has ls 4 [(0, .ref (hs t0)), (1, .int x1), (2, .int x2), (3, .int x3)] → gf_Model_bits_L8 F z  n u t0 x1 x2 x3 = some r0 → gw_Gi p l e gr_Model_bits s m args below meth c D cA hs z r0 H locs ls 8 [] := by
  intro n
  induction n with
  | zero =>
    intro u t0 x1 x2 x3 H locs ls o_t0 hW hl h
    cases h
  | succ n ih =>
    intro u t0 x1 x2 x3 H locs ls o_t0 hW hl h
    exact gx_Model_bits_S8 F C hr hk  ih u t0 x1 x2 x3 o_t0 hW hl h

set_option maxHeartbeats 4000000 in
set_option maxRecDepth 20000 in
theorem gx_Model_bits_b0 {p : Program} {l : Launch} {e : Env} {s : State} {m : MethodId} {args : Array Value} {below : List Frame} {meth : Method} {c : Code} {D : va_G} {cA : Nat → ClassId} {hs : Nat → Nat} {z : gw_Sh} (F : Nat) {r0 : (Int32 × gw_St)} (C : gw_Cx p s m args c gb_Model_bits 4 R_Model D cA) (hr : meth.sig.returnType = (some .int)) (hk : meth.locks = false) (u : gw_St) (t0 : Nat) (x1 : Int32) (o_t0 : gw_ok z t0 9) {H : Heap} {locs : List Loc} {ls : Array Slot} (hW : gw_Wx D cA hs z s u H locs) (hl : lv_has ls 4 [(0, .ref (hs t0)), (1, .int x1)]) (h : gf_Model_bits_b0 F z   u t0 x1 = some r0) : gw_Gi p l e gr_Model_bits s m args below meth c D cA hs z r0 H locs ls 0 [] := by
  obtain ⟨hx, hb, hml, hown, hts, hK⟩ := id C
  unfold gf_Model_bits_b0 at h
  refine lv_aload_n hx hb gd_Model_bits_0 rfl (lv_at hl 0 rfl) ?_
  refine lv_iload_n hx hb gd_Model_bits_1 rfl (lv_at hl 1 rfl) ?_
  obtain ⟨a11, u9, d10, h⟩ := gf_cl_ok h
  refine gw_callVi (K := R_Model) (As := [.int x1]) (rest := []) C hW (fun _ h => Or.inr h) hl.1 gm_Model_size (gc_Model_size l F o_t0 d10 _) gk_530 gk_531 gk_532 o_t0 (by decide) rfl rfl rfl ⟨Nat.le_of_ble_eq_true rfl, Nat.le_of_ble_eq_true rfl⟩ ⟨Nat.zero_le _, Nat.zero_le _⟩ rfl rfl (Nat.le_of_ble_eq_true rfl) gd_Model_bits_2 (fun H locs hW => ?_)
  refine lv_istore_n (lv' := [(2, .int a11), (0, .ref (hs t0)), (1, .int x1)]) hx hb gd_Model_bits_5 rfl hl (by decide) rfl (fun ls hl => ?_)
  refine lv_iconst (v := 0) hx hb gd_Model_bits_6 (by decide) ?_
  refine lv_istore_n (lv' := [(3, .int 0), (2, .int a11), (0, .ref (hs t0)), (1, .int x1)]) hx hb gd_Model_bits_7 rfl hl (by decide) rfl (fun ls hl => ?_)
  exact gx_Model_bits_L8 F C hr hk  F u9 t0 x1 a11 0 _ _ _ o_t0 hW (lv_sub hl [2, 3, 1, 0] rfl) h

set_option maxRecDepth 20000 in
theorem gc_Model_bits (l : Launch) {D : va_G} {cA : Nat → ClassId} {hs : Nat → Nat} {z : gw_Sh} (F : Nat) {u : gw_St} {r0 : (Int32 × gw_St)} {t0 : Nat} {x1 : Int32} (o_t0 : gw_ok z t0 9) (h : gf_Model_bits F z u t0 x1 = some r0) (sz : Nat) : gw_Mi l gy_Model_bits gb_Model_bits 4 (some .int) gr_Model_bits [.ref (hs t0), .int x1] D cA hs z u sz r0 := by
  refine gw_enter (by decide) (Nat.le_of_ble_eq_true rfl) ?_
  intro p e s m below meth c ls hsz C hW hr hk _ hl
  subst hsz
  exact gx_Model_bits_b0 F C hr hk u t0 x1 o_t0 hW (lv_sub hl [0, 1] rfl) h
