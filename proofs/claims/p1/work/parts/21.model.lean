-- GearDeskModel.compare(JJJJ)I
def gy_Model_compare : MethodName := ⟨R_Model, "compare", "(JJJJ)I"⟩
abbrev gb_Model_compare : ByteArray := prog_11_method_15_code
theorem gk_428 : Cond.code gy_Model_compare gb_Model_compare 25 (some .int) ∈ gt_T := gt_m7 (List.mem_of_getElem? (i := 25) rfl) rfl
def gr_Model_compare : Room := gw_rm 1 64
theorem gm_Model_compare : gw_Mth gy_Model_compare gb_Model_compare 25 (some .int) 4 := ⟨gk_428, gk_377, ⟨by decide +kernel, by decide +kernel⟩, by decide +kernel⟩
theorem gd_Model_compare_0 : decode gb_Model_compare 0 = .ok (.lload_n 0, 1) := by decide +kernel
theorem gd_Model_compare_1 : decode gb_Model_compare 1 = .ok (.lstore 8, 2) := by decide +kernel
theorem gd_Model_compare_3 : decode gb_Model_compare 3 = .ok (.lload_n 2, 1) := by decide +kernel
theorem gd_Model_compare_4 : decode gb_Model_compare 4 = .ok (.lstore 10, 2) := by decide +kernel
theorem gd_Model_compare_6 : decode gb_Model_compare 6 = .ok (.lload 4, 2) := by decide +kernel
theorem gd_Model_compare_8 : decode gb_Model_compare 8 = .ok (.lstore 12, 2) := by decide +kernel
theorem gd_Model_compare_10 : decode gb_Model_compare 10 = .ok (.lload 6, 2) := by decide +kernel
theorem gd_Model_compare_12 : decode gb_Model_compare 12 = .ok (.lstore 14, 2) := by decide +kernel
theorem gd_Model_compare_14 : decode gb_Model_compare 14 = .ok (.iconst 1, 1) := by decide +kernel
theorem gd_Model_compare_15 : decode gb_Model_compare 15 = .ok (.istore 16, 2) := by decide +kernel
theorem gd_Model_compare_17 : decode gb_Model_compare 17 = .ok (.iconst 0, 1) := by decide +kernel
theorem gd_Model_compare_18 : decode gb_Model_compare 18 = .ok (.istore 17, 2) := by decide +kernel
theorem gd_Model_compare_20 : decode gb_Model_compare 20 = .ok (.iconst 1, 1) := by decide +kernel
theorem gd_Model_compare_21 : decode gb_Model_compare 21 = .ok (.istore 18, 2) := by decide +kernel
theorem gd_Model_compare_23 : decode gb_Model_compare 23 = .ok (.iload 18, 2) := by decide +kernel
theorem gd_Model_compare_25 : decode gb_Model_compare 25 = .ok (.ifCond .eq 143, 3) := by decide +kernel
theorem gd_Model_compare_28 : decode gb_Model_compare 28 = .ok (.lload 8, 2) := by decide +kernel
theorem gd_Model_compare_30 : decode gb_Model_compare 30 = .ok (.lload 10, 2) := by decide +kernel
theorem gd_Model_compare_32 : decode gb_Model_compare 32 = .ok (.ldiv, 1) := by decide +kernel
theorem gd_Model_compare_33 : decode gb_Model_compare 33 = .ok (.lstore 19, 2) := by decide +kernel
theorem gd_Model_compare_35 : decode gb_Model_compare 35 = .ok (.lload 12, 2) := by decide +kernel
theorem gd_Model_compare_37 : decode gb_Model_compare 37 = .ok (.lload 14, 2) := by decide +kernel
theorem gd_Model_compare_39 : decode gb_Model_compare 39 = .ok (.ldiv, 1) := by decide +kernel
theorem gd_Model_compare_40 : decode gb_Model_compare 40 = .ok (.lstore 21, 2) := by decide +kernel
theorem gd_Model_compare_42 : decode gb_Model_compare 42 = .ok (.lload 19, 2) := by decide +kernel
theorem gd_Model_compare_44 : decode gb_Model_compare 44 = .ok (.lload 21, 2) := by decide +kernel
theorem gd_Model_compare_46 : decode gb_Model_compare 46 = .ok (.lcmp, 1) := by decide +kernel
theorem gd_Model_compare_47 : decode gb_Model_compare 47 = .ok (.ifCond .eq 20, 3) := by decide +kernel
theorem gd_Model_compare_50 : decode gb_Model_compare 50 = .ok (.lload 19, 2) := by decide +kernel
theorem gd_Model_compare_52 : decode gb_Model_compare 52 = .ok (.lload 21, 2) := by decide +kernel
theorem gd_Model_compare_54 : decode gb_Model_compare 54 = .ok (.lcmp, 1) := by decide +kernel
theorem gd_Model_compare_55 : decode gb_Model_compare 55 = .ok (.ifCond .ge 9, 3) := by decide +kernel
theorem gd_Model_compare_58 : decode gb_Model_compare 58 = .ok (.iload 16, 2) := by decide +kernel
theorem gd_Model_compare_60 : decode gb_Model_compare 60 = .ok (.ineg, 1) := by decide +kernel
theorem gd_Model_compare_61 : decode gb_Model_compare 61 = .ok (.goto 5, 3) := by decide +kernel
theorem gd_Model_compare_64 : decode gb_Model_compare 64 = .ok (.iload 16, 2) := by decide +kernel
theorem gd_Model_compare_66 : decode gb_Model_compare 66 = .ok (.ireturn, 1) := by decide +kernel
theorem gd_Model_compare_67 : decode gb_Model_compare 67 = .ok (.lload 8, 2) := by decide +kernel
theorem gd_Model_compare_69 : decode gb_Model_compare 69 = .ok (.lload 10, 2) := by decide +kernel
theorem gd_Model_compare_71 : decode gb_Model_compare 71 = .ok (.lrem, 1) := by decide +kernel
theorem gd_Model_compare_72 : decode gb_Model_compare 72 = .ok (.lstore 8, 2) := by decide +kernel
theorem gd_Model_compare_74 : decode gb_Model_compare 74 = .ok (.lload 12, 2) := by decide +kernel
theorem gd_Model_compare_76 : decode gb_Model_compare 76 = .ok (.lload 14, 2) := by decide +kernel
theorem gd_Model_compare_78 : decode gb_Model_compare 78 = .ok (.lrem, 1) := by decide +kernel
theorem gd_Model_compare_79 : decode gb_Model_compare 79 = .ok (.lstore 12, 2) := by decide +kernel
theorem gd_Model_compare_81 : decode gb_Model_compare 81 = .ok (.lload 8, 2) := by decide +kernel
theorem gd_Model_compare_83 : decode gb_Model_compare 83 = .ok (.lconst 0, 1) := by decide +kernel
theorem gd_Model_compare_84 : decode gb_Model_compare 84 = .ok (.lcmp, 1) := by decide +kernel
theorem gd_Model_compare_85 : decode gb_Model_compare 85 = .ok (.ifCond .eq 14, 3) := by decide +kernel
theorem gd_Model_compare_88 : decode gb_Model_compare 88 = .ok (.lload 12, 2) := by decide +kernel
theorem gd_Model_compare_90 : decode gb_Model_compare 90 = .ok (.lconst 0, 1) := by decide +kernel
theorem gd_Model_compare_91 : decode gb_Model_compare 91 = .ok (.lcmp, 1) := by decide +kernel
theorem gd_Model_compare_92 : decode gb_Model_compare 92 = .ok (.ifCond .eq 7, 3) := by decide +kernel
theorem gd_Model_compare_95 : decode gb_Model_compare 95 = .ok (.iconst 1, 1) := by decide +kernel
theorem gd_Model_compare_96 : decode gb_Model_compare 96 = .ok (.goto 4, 3) := by decide +kernel
theorem gd_Model_compare_99 : decode gb_Model_compare 99 = .ok (.iconst 0, 1) := by decide +kernel
theorem gd_Model_compare_100 : decode gb_Model_compare 100 = .ok (.istore 18, 2) := by decide +kernel
theorem gd_Model_compare_102 : decode gb_Model_compare 102 = .ok (.iload 18, 2) := by decide +kernel
theorem gd_Model_compare_104 : decode gb_Model_compare 104 = .ok (.ifCond .ne 32, 3) := by decide +kernel
theorem gd_Model_compare_107 : decode gb_Model_compare 107 = .ok (.lload 8, 2) := by decide +kernel
theorem gd_Model_compare_109 : decode gb_Model_compare 109 = .ok (.lload 12, 2) := by decide +kernel
theorem gd_Model_compare_111 : decode gb_Model_compare 111 = .ok (.lcmp, 1) := by decide +kernel
theorem gd_Model_compare_112 : decode gb_Model_compare 112 = .ok (.ifCond .ne 7, 3) := by decide +kernel
theorem gd_Model_compare_115 : decode gb_Model_compare 115 = .ok (.iconst 0, 1) := by decide +kernel
theorem gd_Model_compare_116 : decode gb_Model_compare 116 = .ok (.goto 18, 3) := by decide +kernel
theorem gd_Model_compare_119 : decode gb_Model_compare 119 = .ok (.lload 8, 2) := by decide +kernel
theorem gd_Model_compare_121 : decode gb_Model_compare 121 = .ok (.lconst 0, 1) := by decide +kernel
theorem gd_Model_compare_122 : decode gb_Model_compare 122 = .ok (.lcmp, 1) := by decide +kernel
theorem gd_Model_compare_123 : decode gb_Model_compare 123 = .ok (.ifCond .ne 9, 3) := by decide +kernel
theorem gd_Model_compare_126 : decode gb_Model_compare 126 = .ok (.iload 16, 2) := by decide +kernel
theorem gd_Model_compare_128 : decode gb_Model_compare 128 = .ok (.ineg, 1) := by decide +kernel
theorem gd_Model_compare_129 : decode gb_Model_compare 129 = .ok (.goto 5, 3) := by decide +kernel
theorem gd_Model_compare_132 : decode gb_Model_compare 132 = .ok (.iload 16, 2) := by decide +kernel
theorem gd_Model_compare_134 : decode gb_Model_compare 134 = .ok (.istore 17, 2) := by decide +kernel
theorem gd_Model_compare_136 : decode gb_Model_compare 136 = .ok (.lload 8, 2) := by decide +kernel
theorem gd_Model_compare_138 : decode gb_Model_compare 138 = .ok (.lstore 23, 2) := by decide +kernel
theorem gd_Model_compare_140 : decode gb_Model_compare 140 = .ok (.lload 10, 2) := by decide +kernel
theorem gd_Model_compare_142 : decode gb_Model_compare 142 = .ok (.lstore 8, 2) := by decide +kernel
theorem gd_Model_compare_144 : decode gb_Model_compare 144 = .ok (.lload 23, 2) := by decide +kernel
theorem gd_Model_compare_146 : decode gb_Model_compare 146 = .ok (.lstore 10, 2) := by decide +kernel
theorem gd_Model_compare_148 : decode gb_Model_compare 148 = .ok (.lload 12, 2) := by decide +kernel
theorem gd_Model_compare_150 : decode gb_Model_compare 150 = .ok (.lstore 23, 2) := by decide +kernel
theorem gd_Model_compare_152 : decode gb_Model_compare 152 = .ok (.lload 14, 2) := by decide +kernel
theorem gd_Model_compare_154 : decode gb_Model_compare 154 = .ok (.lstore 12, 2) := by decide +kernel
theorem gd_Model_compare_156 : decode gb_Model_compare 156 = .ok (.lload 23, 2) := by decide +kernel
theorem gd_Model_compare_158 : decode gb_Model_compare 158 = .ok (.lstore 14, 2) := by decide +kernel
theorem gd_Model_compare_160 : decode gb_Model_compare 160 = .ok (.iload 16, 2) := by decide +kernel
theorem gd_Model_compare_162 : decode gb_Model_compare 162 = .ok (.ineg, 1) := by decide +kernel
theorem gd_Model_compare_163 : decode gb_Model_compare 163 = .ok (.istore 16, 2) := by decide +kernel
theorem gd_Model_compare_165 : decode gb_Model_compare 165 = .ok (.goto (-142), 3) := by decide +kernel
theorem gd_Model_compare_168 : decode gb_Model_compare 168 = .ok (.iload 17, 2) := by decide +kernel
theorem gd_Model_compare_170 : decode gb_Model_compare 170 = .ok (.ireturn, 1) := by decide +kernel
def gf_Model_compare_b66 (F : Nat) (z : gw_Sh)  (u : gw_St) (sx0 : Int32) : Option (Int32 × gw_St) :=
  some (sx0, u)
def gf_Model_compare_b136 (F : Nat) (z : gw_Sh) (rc_23 : gw_St → Int64 → Int64 → Int64 → Int64 → Int32 → Int32 → Int32 → Option (Int32 × gw_St)) (u : gw_St) (y8 : Int64) (y10 : Int64) (y12 : Int64) (y14 : Int64) (x16 : Int32) (x17 : Int32) (x18 : Int32) : Option (Int32 × gw_St) :=
  gf_nm (-x16) fun a1 => rc_23 u y10 y8 y14 y12 a1 x17 x18
def gf_Model_compare_b134 (F : Nat) (z : gw_Sh) (rc_23 : gw_St → Int64 → Int64 → Int64 → Int64 → Int32 → Int32 → Int32 → Option (Int32 × gw_St)) (u : gw_St) (y8 : Int64) (y10 : Int64) (y12 : Int64) (y14 : Int64) (x16 : Int32) (x18 : Int32) (sx0 : Int32) : Option (Int32 × gw_St) :=
  gf_Model_compare_b136 F z rc_23 u y8 y10 y12 y14 x16 sx0 x18
def gf_Model_compare_b100 (F : Nat) (z : gw_Sh) (rc_23 : gw_St → Int64 → Int64 → Int64 → Int64 → Int32 → Int32 → Int32 → Option (Int32 × gw_St)) (u : gw_St) (y8 : Int64) (y10 : Int64) (y12 : Int64) (y14 : Int64) (x16 : Int32) (x17 : Int32) (sx0 : Int32) : Option (Int32 × gw_St) :=
  if sx0 = 0 then (if (lg_cmp y8 y12) = 0 then (gf_Model_compare_b134 F z rc_23 u y8 y10 y12 y14 x16 sx0 0) else (if (lg_cmp y8 (0 : Int64)) = 0 then (gf_Model_compare_b134 F z rc_23 u y8 y10 y12 y14 x16 sx0 (-x16)) else (gf_Model_compare_b134 F z rc_23 u y8 y10 y12 y14 x16 sx0 x16))) else (gf_Model_compare_b136 F z rc_23 u y8 y10 y12 y14 x16 x17 sx0)
def gf_Model_compare_b99 (F : Nat) (z : gw_Sh) (rc_23 : gw_St → Int64 → Int64 → Int64 → Int64 → Int32 → Int32 → Int32 → Option (Int32 × gw_St)) (u : gw_St) (y8 : Int64) (y10 : Int64) (y12 : Int64) (y14 : Int64) (x16 : Int32) (x17 : Int32) : Option (Int32 × gw_St) :=
  gf_Model_compare_b100 F z rc_23 u y8 y10 y12 y14 x16 x17 0
def gf_Model_compare_S23 (F : Nat) (z : gw_Sh)  (rc_23 : gw_St → Int64 → Int64 → Int64 → Int64 → Int32 → Int32 → Int32 → Option (Int32 × gw_St)) (u : gw_St) (y8 : Int64) (y10 : Int64) (y12 : Int64) (y14 : Int64) (x16 : Int32) (x17 : Int32) (x18 : Int32) : Option (Int32 × gw_St) :=
  if x18 = 0 then (some (x17, u)) else (if y10 = 0 then none else gf_nm (y8 / y10) fun a8 => if y14 = 0 then none else gf_nm (y12 / y14) fun a11 => if (lg_cmp a8 a11) = 0 then (if y10 = 0 then none else gf_nm (y8 - y8 / y10 * y10) fun a15 => if y14 = 0 then none else gf_nm (y12 - y12 / y14 * y14) fun a18 => if (lg_cmp a15 (0 : Int64)) = 0 then (gf_Model_compare_b99 F z rc_23 u a15 y10 a18 y14 x16 x17) else (if (lg_cmp a18 (0 : Int64)) = 0 then (gf_Model_compare_b99 F z rc_23 u a15 y10 a18 y14 x16 x17) else (gf_Model_compare_b100 F z rc_23 u a15 y10 a18 y14 x16 x17 1))) else (if 0 ≤ (lg_cmp a8 a11) then (gf_Model_compare_b66 F z  u x16) else (gf_Model_compare_b66 F z  u (-x16))))
def gf_Model_compare_L23 (F : Nat) (z : gw_Sh)  : Nat → gw_St → Int64 → Int64 → Int64 → Int64 → Int32 → Int32 → Int32 → Option (Int32 × gw_St)
  | 0 => fun _ _ _ _ _ _ _ _ => none
  | n + 1 => fun u y8 y10 y12 y14 x16 x17 x18 => gf_Model_compare_S23 F z  (gf_Model_compare_L23 F z  n) u y8 y10 y12 y14 x16 x17 x18
def gf_Model_compare_b0 (F : Nat) (z : gw_Sh)  (u : gw_St) (y0 : Int64) (y2 : Int64) (y4 : Int64) (y6 : Int64) : Option (Int32 × gw_St) :=
  gf_Model_compare_L23 F z  F u y0 y2 y4 y6 1 0 1
def gf_Model_compare (F : Nat) (z : gw_Sh) (u : gw_St) (y0 : Int64) (y2 : Int64) (y4 : Int64) (y6 : Int64) : Option (Int32 × gw_St) := gf_Model_compare_b0 F z  u y0 y2 y4 y6
set_option maxHeartbeats 4000000 in
set_option maxRecDepth 20000 in
theorem gx_Model_compare_b66 {p : Program} {l : Launch} {e : Env} {s : State} {m : MethodId} {args : Array Value} {below : List Frame} {meth : Method} {c : Code} {D : va_G} {cA : Nat → ClassId} {hs : Nat → Nat} {z : gw_Sh} (F : Nat) {r0 : (Int32 × gw_St)} (C : gw_Cx p s m args c gb_Model_compare 25 R_Model D cA) (hr : meth.sig.returnType = (some .int)) (hk : meth.locks = false) (u : gw_St) (sx0 : Int32)  {H : Heap} {locs : List Loc} {ls : Array Slot} (hW : gw_Wx D cA hs z s u H locs) (hl : lv_has ls 25 []) (h : gf_Model_compare_b66 F z   u sx0 = some r0) : gw_Gi p l e gr_Model_compare s m args below meth c D cA hs z r0 H locs ls 66 [.int sx0] := by
  obtain ⟨hx, hb, hml, hown, hts, hK⟩ := id C
  unfold gf_Model_compare_b66 at h
  obtain rfl := Option.some.inj h
  exact gw_iret C hW hr hk gd_Model_compare_66

set_option maxHeartbeats 4000000 in
set_option maxRecDepth 20000 in
theorem gx_Model_compare_b136 {p : Program} {l : Launch} {e : Env} {s : State} {m : MethodId} {args : Array Value} {below : List Frame} {meth : Method} {c : Code} {D : va_G} {cA : Nat → ClassId} {hs : Nat → Nat} {z : gw_Sh} (F : Nat) {r0 : (Int32 × gw_St)} (C : gw_Cx p s m args c gb_Model_compare 25 R_Model D cA) (hr : meth.sig.returnType = (some .int)) (hk : meth.locks = false) {rc_23 : gw_St → Int64 → Int64 → Int64 → Int64 → Int32 → Int32 → Int32 → Option (Int32 × gw_St)} (k_23 : ∀ (u : gw_St) (y8 : Int64) (y10 : Int64) (y12 : Int64) (y14 : Int64) (x16 : Int32) (x17 : Int32) (x18 : Int32) (H : Heap) (locs : List Loc) (ls : Array Slot), gw_Wx D cA hs z s u H locs → lv_has ls 25 [(8, .long y8), (10, .long y10), (12, .long y12), (14, .long y14), (16, .int x16), (17, .int x17), (18, .int x18)] → rc_23 u y8 y10 y12 y14 x16 x17 x18 = some r0 → gw_Gi p l e gr_Model_compare s m args below meth c D cA hs z r0 H locs ls 23 []) (u : gw_St) (y8 : Int64) (y10 : Int64) (y12 : Int64) (y14 : Int64) (x16 : Int32) (x17 : Int32) (x18 : Int32)  {H : Heap} {locs : List Loc} {ls : Array Slot} (hW : gw_Wx D cA hs z s u H locs) (hl : lv_has ls 25 [(8, .long y8), (10, .long y10), (12, .long y12), (14, .long y14), (16, .int x16), (17, .int x17), (18, .int x18)]) (h : gf_Model_compare_b136 F z rc_23  u y8 y10 y12 y14 x16 x17 x18 = some r0) : gw_Gi p l e gr_Model_compare s m args below meth c D cA hs z r0 H locs ls 136 [] := by
  obtain ⟨hx, hb, hml, hown, hts, hK⟩ := id C
  unfold gf_Model_compare_b136 at h
  refine lv_lload hx hb gd_Model_compare_136 (lv_at hl 0 rfl) ?_
  refine lv_lstore (lv' := [(23, .long y8), (8, .long y8), (10, .long y10), (12, .long y12), (14, .long y14), (16, .int x16), (17, .int x17), (18, .int x18)]) hx hb gd_Model_compare_138 hl (by decide) rfl (fun ls hl => ?_)
  refine lv_lload hx hb gd_Model_compare_140 (lv_at hl 2 rfl) ?_
  refine lv_lstore (lv' := [(8, .long y10), (23, .long y8), (10, .long y10), (12, .long y12), (14, .long y14), (16, .int x16), (17, .int x17), (18, .int x18)]) hx hb gd_Model_compare_142 hl (by decide) rfl (fun ls hl => ?_)
  refine lv_lload hx hb gd_Model_compare_144 (lv_at hl 1 rfl) ?_
  refine lv_lstore (lv' := [(10, .long y8), (8, .long y10), (23, .long y8), (12, .long y12), (14, .long y14), (16, .int x16), (17, .int x17), (18, .int x18)]) hx hb gd_Model_compare_146 hl (by decide) rfl (fun ls hl => ?_)
  refine lv_lload hx hb gd_Model_compare_148 (lv_at hl 3 rfl) ?_
  refine lv_lstore (lv' := [(23, .long y12), (10, .long y8), (8, .long y10), (12, .long y12), (14, .long y14), (16, .int x16), (17, .int x17), (18, .int x18)]) hx hb gd_Model_compare_150 hl (by decide) rfl (fun ls hl => ?_)
  refine lv_lload hx hb gd_Model_compare_152 (lv_at hl 4 rfl) ?_
  refine lv_lstore (lv' := [(12, .long y14), (23, .long y12), (10, .long y8), (8, .long y10), (14, .long y14), (16, .int x16), (17, .int x17), (18, .int x18)]) hx hb gd_Model_compare_154 hl (by decide) rfl (fun ls hl => ?_)
  refine lv_lload hx hb gd_Model_compare_156 (lv_at hl 1 rfl) ?_
  refine lv_lstore (lv' := [(14, .long y12), (12, .long y14), (23, .long y12), (10, .long y8), (8, .long y10), (16, .int x16), (17, .int x17), (18, .int x18)]) hx hb gd_Model_compare_158 hl (by decide) rfl (fun ls hl => ?_)
  refine lv_iload hx hb gd_Model_compare_160 (lv_at hl 5 rfl) ?_
  refine lv_ineg hx hb gd_Model_compare_162 ?_
  refine lv_topi (fun a1 e2 => ?_)
  have h := gf_nm_ok e2 h
  refine lv_istore (lv' := [(16, .int a1), (14, .long y12), (12, .long y14), (23, .long y12), (10, .long y8), (8, .long y10), (17, .int x17), (18, .int x18)]) hx hb gd_Model_compare_163 hl (by decide) rfl (fun ls hl => ?_)
  refine lv_goto (tgt := 23) hx hb gd_Model_compare_165 (by decide) ?_
  exact k_23 u y10 y8 y14 y12 a1 x17 x18 _ _ _  hW (lv_sub hl [5, 4, 2, 1, 0, 6, 7] rfl) h

set_option maxHeartbeats 4000000 in
set_option maxRecDepth 20000 in
theorem gx_Model_compare_b134 {p : Program} {l : Launch} {e : Env} {s : State} {m : MethodId} {args : Array Value} {below : List Frame} {meth : Method} {c : Code} {D : va_G} {cA : Nat → ClassId} {hs : Nat → Nat} {z : gw_Sh} (F : Nat) {r0 : (Int32 × gw_St)} (C : gw_Cx p s m args c gb_Model_compare 25 R_Model D cA) (hr : meth.sig.returnType = (some .int)) (hk : meth.locks = false) {rc_23 : gw_St → Int64 → Int64 → Int64 → Int64 → Int32 → Int32 → Int32 → Option (Int32 × gw_St)} (k_23 : ∀ (u : gw_St) (y8 : Int64) (y10 : Int64) (y12 : Int64) (y14 : Int64) (x16 : Int32) (x17 : Int32) (x18 : Int32) (H : Heap) (locs : List Loc) (ls : Array Slot), gw_Wx D cA hs z s u H locs → lv_has ls 25 [(8, .long y8), (10, .long y10), (12, .long y12), (14, .long y14), (16, .int x16), (17, .int x17), (18, .int x18)] → rc_23 u y8 y10 y12 y14 x16 x17 x18 = some r0 → gw_Gi p l e gr_Model_compare s m args below meth c D cA hs z r0 H locs ls 23 []) (u : gw_St) (y8 : Int64) (y10 : Int64) (y12 : Int64) (y14 : Int64) (x16 : Int32) (x18 : Int32) (sx0 : Int32)  {H : Heap} {locs : List Loc} {ls : Array Slot} (hW : gw_Wx D cA hs z s u H locs) (hl : lv_has ls 25 [(8, .long y8), (10, .long y10), (12, .long y12), (14, .long y14), (16, .int x16), (18, .int x18)]) (h : gf_Model_compare_b134 F z rc_23  u y8 y10 y12 y14 x16 x18 sx0 = some r0) : gw_Gi p l e gr_Model_compare s m args below meth c D cA hs z r0 H locs ls 134 [.int sx0] := by
  obtain ⟨hx, hb, hml, hown, hts, hK⟩ := id C
  unfold gf_Model_compare_b134 at h
  refine lv_istore (lv' := [(17, .int sx0), (8, .long y8), (10, .long y10), (12, .long y12), (14, .long y14), (16, .int x16), (18, .int x18)]) hx hb gd_Model_compare_134 hl (by decide) rfl (fun ls hl => ?_)
  exact gx_Model_compare_b136 F C hr hk k_23 u y8 y10 y12 y14 x16 sx0 x18  hW (lv_sub hl [1, 2, 3, 4, 5, 0, 6] rfl) h

set_option maxHeartbeats 4000000 in
set_option maxRecDepth 20000 in
theorem gx_Model_compare_b100 {p : Program} {l : Launch} {e : Env} {s : State} {m : MethodId} {args : Array Value} {below : List Frame} {meth : Method} {c : Code} {D : va_G} {cA : Nat → ClassId} {hs : Nat → Nat} {z : gw_Sh} (F : Nat) {r0 : (Int32 × gw_St)} (C : gw_Cx p s m args c gb_Model_compare 25 R_Model D cA) (hr : meth.sig.returnType = (some .int)) (hk : meth.locks = false) {rc_23 : gw_St → Int64 → Int64 → Int64 → Int64 → Int32 → Int32 → Int32 → Option (Int32 × gw_St)} (k_23 : ∀ (u : gw_St) (y8 : Int64) (y10 : Int64) (y12 : Int64) (y14 : Int64) (x16 : Int32) (x17 : Int32) (x18 : Int32) (H : Heap) (locs : List Loc) (ls : Array Slot), gw_Wx D cA hs z s u H locs → lv_has ls 25 [(8, .long y8), (10, .long y10), (12, .long y12), (14, .long y14), (16, .int x16), (17, .int x17), (18, .int x18)] → rc_23 u y8 y10 y12 y14 x16 x17 x18 = some r0 → gw_Gi p l e gr_Model_compare s m args below meth c D cA hs z r0 H locs ls 23 []) (u : gw_St) (y8 : Int64) (y10 : Int64) (y12 : Int64) (y14 : Int64) (x16 : Int32) (x17 : Int32) (sx0 : Int32)  {H : Heap} {locs : List Loc} {ls : Array Slot} (hW : gw_Wx D cA hs z s u H locs) (hl : lv_has ls 25 [(8, .long y8), (10, .long y10), (12, .long y12), (14, .long y14), (16, .int x16), (17, .int x17)]) (h : gf_Model_compare_b100 F z rc_23  u y8 y10 y12 y14 x16 x17 sx0 = some r0) : gw_Gi p l e gr_Model_compare s m args below meth c D cA hs z r0 H locs ls 100 [.int sx0] := by
  obtain ⟨hx, hb, hml, hown, hts, hK⟩ := id C
  unfold gf_Model_compare_b100 at h
  refine lv_istore (lv' := [(18, .int sx0), (8, .long y8), (10, .long y10), (12, .long y12), (14, .long y14), (16, .int x16), (17, .int x17)]) hx hb gd_Model_compare_100 hl (by decide) rfl (fun ls hl => ?_)
  refine lv_iload hx hb gd_Model_compare_102 (lv_at hl 0 rfl) ?_
  refine lv_if_ne (tgt := 136) hx hb gd_Model_compare_104 (by decide) (fun c3 => ?_) (fun c3 => ?_)
  · have h := gf_f c3 h
    exact gx_Model_compare_b136 F C hr hk k_23 u y8 y10 y12 y14 x16 x17 sx0  hW (lv_sub hl [1, 2, 3, 4, 5, 6, 0] rfl) h
  · have h := gf_t c3 h
    refine lv_lload hx hb gd_Model_compare_107 (lv_at hl 1 rfl) ?_
    refine lv_lload hx hb gd_Model_compare_109 (lv_at hl 3 rfl) ?_
    refine W.lcmp hx hb gd_Model_compare_111 ?_
    refine lv_if_ne (tgt := 119) hx hb gd_Model_compare_112 (by decide) (fun c4 => ?_) (fun c4 => ?_)
    · have h := gf_f c4 h
      refine lv_lload hx hb gd_Model_compare_119 (lv_at hl 1 rfl) ?_
      refine lv_lconst (v := 0) hx hb gd_Model_compare_121 (by decide) ?_
      refine W.lcmp hx hb gd_Model_compare_122 ?_
      refine lv_if_ne (tgt := 132) hx hb gd_Model_compare_123 (by decide) (fun c5 => ?_) (fun c5 => ?_)
      · have h := gf_f c5 h
        refine lv_iload hx hb gd_Model_compare_132 (lv_at hl 5 rfl) ?_
        exact gx_Model_compare_b134 F C hr hk k_23 u y8 y10 y12 y14 x16 sx0 x16  hW (lv_sub hl [1, 2, 3, 4, 5, 0] rfl) h
      · have h := gf_t c5 h
        refine lv_iload hx hb gd_Model_compare_126 (lv_at hl 5 rfl) ?_
        refine lv_ineg hx hb gd_Model_compare_128 ?_
        refine lv_goto (tgt := 134) hx hb gd_Model_compare_129 (by decide) ?_
        exact gx_Model_compare_b134 F C hr hk k_23 u y8 y10 y12 y14 x16 sx0 (-x16)  hW (lv_sub hl [1, 2, 3, 4, 5, 0] rfl) h
    · have h := gf_t c4 h
      refine lv_iconst (v := 0) hx hb gd_Model_compare_115 (by decide) ?_
      refine lv_goto (tgt := 134) hx hb gd_Model_compare_116 (by decide) ?_
      exact gx_Model_compare_b134 F C hr hk k_23 u y8 y10 y12 y14 x16 sx0 0  hW (lv_sub hl [1, 2, 3, 4, 5, 0] rfl) h

set_option maxHeartbeats 4000000 in
set_option maxRecDepth 20000 in
theorem gx_Model_compare_b99 {p : Program} {l : Launch} {e : Env} {s : State} {m : MethodId} {args : Array Value} {below : List Frame} {meth : Method} {c : Code} {D : va_G} {cA : Nat → ClassId} {hs : Nat → Nat} {z : gw_Sh} (F : Nat) {r0 : (Int32 × gw_St)} (C : gw_Cx p s m args c gb_Model_compare 25 R_Model D cA) (hr : meth.sig.returnType = (some .int)) (hk : meth.locks = false) {rc_23 : gw_St → Int64 → Int64 → Int64 → Int64 → Int32 → Int32 → Int32 → Option (Int32 × gw_St)} (k_23 : ∀ (u : gw_St) (y8 : Int64) (y10 : Int64) (y12 : Int64) (y14 : Int64) (x16 : Int32) (x17 : Int32) (x18 : Int32) (H : Heap) (locs : List Loc) (ls : Array Slot), gw_Wx D cA hs z s u H locs → lv_has ls 25 [(8, .long y8), (10, .long y10), (12, .long y12), (14, .long y14), (16, .int x16), (17, .int x17), (18, .int x18)] → rc_23 u y8 y10 y12 y14 x16 x17 x18 = some r0 → gw_Gi p l e gr_Model_compare s m args below meth c D cA hs z r0 H locs ls 23 []) (u : gw_St) (y8 : Int64) (y10 : Int64) (y12 : Int64) (y14 : Int64) (x16 : Int32) (x17 : Int32)  {H : Heap} {locs : List Loc} {ls : Array Slot} (hW : gw_Wx D cA hs z s u H locs) (hl : lv_has ls 25 [(8, .long y8), (10, .long y10), (12, .long y12), (14, .long y14), (16, .int x16), (17, .int x17)]) (h : gf_Model_compare_b99 F z rc_23  u y8 y10 y12 y14 x16 x17 = some r0) : gw_Gi p l e gr_Model_compare s m args below meth c D cA hs z r0 H locs ls 99 [] := by
  obtain ⟨hx, hb, hml, hown, hts, hK⟩ := id C
  unfold gf_Model_compare_b99 at h
  refine lv_iconst (v := 0) hx hb gd_Model_compare_99 (by decide) ?_
  exact gx_Model_compare_b100 F C hr hk k_23 u y8 y10 y12 y14 x16 x17 0  hW (lv_sub hl [0, 1, 2, 3, 4, 5] rfl) h

set_option maxHeartbeats 4000000 in
set_option maxRecDepth 20000 in
theorem gx_Model_compare_S23 {p : Program} {l : Launch} {e : Env} {s : State} {m : MethodId} {args : Array Value} {below : List Frame} {meth : Method} {c : Code} {D : va_G} {cA : Nat → ClassId} {hs : Nat → Nat} {z : gw_Sh} (F : Nat) {r0 : (Int32 × gw_St)} (C : gw_Cx p s m args c gb_Model_compare 25 R_Model D cA) (hr : meth.sig.returnType = (some .int)) (hk : meth.locks = false) {rc_23 : gw_St → Int64 → Int64 → Int64 → Int64 → Int32 → Int32 → Int32 → Option (Int32 × gw_St)} (k_23 : ∀ (u : gw_St) (y8 : Int64) (y10 : Int64) (y12 : Int64) (y14 : Int64) (x16 : Int32) (x17 : Int32) (x18 : Int32) (H : Heap) (locs : List Loc) (ls : Array Slot), gw_Wx D cA hs z s u H locs → lv_has ls 25 [(8, .long y8), (10, .long y10), (12, .long y12), (14, .long y14), (16, .int x16), (17, .int x17), (18, .int x18)] → rc_23 u y8 y10 y12 y14 x16 x17 x18 = some r0 → gw_Gi p l e gr_Model_compare s m args below meth c D cA hs z r0 H locs ls 23 []) (u : gw_St) (y8 : Int64) (y10 : Int64) (y12 : Int64) (y14 : Int64) (x16 : Int32) (x17 : Int32) (x18 : Int32)  {H : Heap} {locs : List Loc} {ls : Array Slot} (hW : gw_Wx D cA hs z s u H locs) (hl : lv_has ls 25 [(8, .long y8), (10, .long y10), (12, .long y12), (14, .long y14), (16, .int x16), (17, .int x17), (18, .int x18)]) (h : gf_Model_compare_S23 F z  rc_23 u y8 y10 y12 y14 x16 x17 x18 = some r0) : gw_Gi p l e gr_Model_compare s m args below meth c D cA hs z r0 H locs ls 23 [] := by
  obtain ⟨hx, hb, hml, hown, hts, hK⟩ := id C
  unfold gf_Model_compare_S23 at h
  refine lv_iload hx hb gd_Model_compare_23 (lv_at hl 6 rfl) ?_
  refine lv_if_eq (tgt := 168) hx hb gd_Model_compare_25 (by decide) (fun c6 => ?_) (fun c6 => ?_)
  · have h := gf_t c6 h
    refine lv_iload hx hb gd_Model_compare_168 (lv_at hl 5 rfl) ?_
    obtain rfl := Option.some.inj h
    exact gw_iret C hW hr hk gd_Model_compare_170
  · have h := gf_f c6 h
    refine lv_lload hx hb gd_Model_compare_28 (lv_at hl 0 rfl) ?_
    refine lv_lload hx hb gd_Model_compare_30 (lv_at hl 1 rfl) ?_
    obtain ⟨g7, h⟩ := gf_if_ok h
    refine lv_ldiv hx hb gd_Model_compare_32 g7 ?_
    refine lv_topl (fun a8 e9 => ?_)
    have h := gf_nm_ok e9 h
    refine lv_lstore (lv' := [(19, .long a8), (8, .long y8), (10, .long y10), (12, .long y12), (14, .long y14), (16, .int x16), (17, .int x17), (18, .int x18)]) hx hb gd_Model_compare_33 hl (by decide) rfl (fun ls hl => ?_)
    refine lv_lload hx hb gd_Model_compare_35 (lv_at hl 3 rfl) ?_
    refine lv_lload hx hb gd_Model_compare_37 (lv_at hl 4 rfl) ?_
    obtain ⟨g10, h⟩ := gf_if_ok h
    refine lv_ldiv hx hb gd_Model_compare_39 g10 ?_
    refine lv_topl (fun a11 e12 => ?_)
    have h := gf_nm_ok e12 h
    refine lv_lstore (lv' := [(21, .long a11), (19, .long a8), (8, .long y8), (10, .long y10), (12, .long y12), (14, .long y14), (16, .int x16), (17, .int x17), (18, .int x18)]) hx hb gd_Model_compare_40 hl (by decide) rfl (fun ls hl => ?_)
    refine lv_lload hx hb gd_Model_compare_42 (lv_at hl 1 rfl) ?_
    refine lv_lload hx hb gd_Model_compare_44 (lv_at hl 0 rfl) ?_
    refine W.lcmp hx hb gd_Model_compare_46 ?_
    refine lv_if_eq (tgt := 67) hx hb gd_Model_compare_47 (by decide) (fun c13 => ?_) (fun c13 => ?_)
    · have h := gf_t c13 h
      refine lv_lload hx hb gd_Model_compare_67 (lv_at hl 2 rfl) ?_
      refine lv_lload hx hb gd_Model_compare_69 (lv_at hl 3 rfl) ?_
      obtain ⟨g14, h⟩ := gf_if_ok h
      refine lv_lrem hx hb gd_Model_compare_71 g14 ?_
      refine lv_topl (fun a15 e16 => ?_)
      have h := gf_nm_ok e16 h
      refine lv_lstore (lv' := [(8, .long a15), (21, .long a11), (19, .long a8), (10, .long y10), (12, .long y12), (14, .long y14), (16, .int x16), (17, .int x17), (18, .int x18)]) hx hb gd_Model_compare_72 hl (by decide) rfl (fun ls hl => ?_)
      refine lv_lload hx hb gd_Model_compare_74 (lv_at hl 4 rfl) ?_
      refine lv_lload hx hb gd_Model_compare_76 (lv_at hl 5 rfl) ?_
      obtain ⟨g17, h⟩ := gf_if_ok h
      refine lv_lrem hx hb gd_Model_compare_78 g17 ?_
      refine lv_topl (fun a18 e19 => ?_)
      have h := gf_nm_ok e19 h
      refine lv_lstore (lv' := [(12, .long a18), (8, .long a15), (21, .long a11), (19, .long a8), (10, .long y10), (14, .long y14), (16, .int x16), (17, .int x17), (18, .int x18)]) hx hb gd_Model_compare_79 hl (by decide) rfl (fun ls hl => ?_)
      refine lv_lload hx hb gd_Model_compare_81 (lv_at hl 1 rfl) ?_
      refine lv_lconst (v := 0) hx hb gd_Model_compare_83 (by decide) ?_
      refine W.lcmp hx hb gd_Model_compare_84 ?_
      refine lv_if_eq (tgt := 99) hx hb gd_Model_compare_85 (by decide) (fun c20 => ?_) (fun c20 => ?_)
      · have h := gf_t c20 h
        exact gx_Model_compare_b99 F C hr hk k_23 u a15 y10 a18 y14 x16 x17  hW (lv_sub hl [1, 4, 0, 5, 6, 7] rfl) h
      · have h := gf_f c20 h
        refine lv_lload hx hb gd_Model_compare_88 (lv_at hl 0 rfl) ?_
        refine lv_lconst (v := 0) hx hb gd_Model_compare_90 (by decide) ?_
        refine W.lcmp hx hb gd_Model_compare_91 ?_
        refine lv_if_eq (tgt := 99) hx hb gd_Model_compare_92 (by decide) (fun c21 => ?_) (fun c21 => ?_)
        · have h := gf_t c21 h
          exact gx_Model_compare_b99 F C hr hk k_23 u a15 y10 a18 y14 x16 x17  hW (lv_sub hl [1, 4, 0, 5, 6, 7] rfl) h
        · have h := gf_f c21 h
          refine lv_iconst (v := 1) hx hb gd_Model_compare_95 (by decide) ?_
          refine lv_goto (tgt := 100) hx hb gd_Model_compare_96 (by decide) ?_
          exact gx_Model_compare_b100 F C hr hk k_23 u a15 y10 a18 y14 x16 x17 1  hW (lv_sub hl [1, 4, 0, 5, 6, 7] rfl) h
    · have h := gf_f c13 h
      refine lv_lload hx hb gd_Model_compare_50 (lv_at hl 1 rfl) ?_
      refine lv_lload hx hb gd_Model_compare_52 (lv_at hl 0 rfl) ?_
      refine W.lcmp hx hb gd_Model_compare_54 ?_
      refine lv_if_ge (tgt := 64) hx hb gd_Model_compare_55 (by decide) (fun c22 => ?_) (fun c22 => ?_)
      · have h := gf_t c22 h
        refine lv_iload hx hb gd_Model_compare_64 (lv_at hl 6 rfl) ?_
        exact gx_Model_compare_b66 F C hr hk  u x16  hW (lv_sub hl [] rfl) h
      · have h := gf_f c22 h
        refine lv_iload hx hb gd_Model_compare_58 (lv_at hl 6 rfl) ?_
        refine lv_ineg hx hb gd_Model_compare_60 ?_
        refine lv_goto (tgt := 66) hx hb gd_Model_compare_61 (by decide) ?_
        exact gx_Model_compare_b66 F C hr hk  u (-x16)  hW (lv_sub hl [] rfl) h
set_option maxHeartbeats 4000000 in
set_option maxRecDepth 20000 in
theorem gx_Model_compare_L23 {p : Program} {l : Launch} {e : Env} {s : State} {m : MethodId} {args : Array Value} {below : List Frame} {meth : Method} {c : Code} {D : va_G} {cA : Nat → ClassId} {hs : Nat → Nat} {z : gw_Sh} (F : Nat) {r0 : (Int32 × gw_St)} (C : gw_Cx p s m args c gb_Model_compare 25 R_Model D cA) (hr : meth.sig.returnType = (some .int)) (hk : meth.locks = false) : ∀ (n : Nat), ∀ (u : gw_St) (y8 : Int64) (y10 : Int64) (y12 : Int64) (y14 : Int64) (x16 : Int32) (x17 : Int32) (x18 : Int32) (H : Heap) (locs : List Loc) (ls : Array Slot), gw_Wx D cA hs z s u H locs → lv_has ls 25 [(8, .long y8), (10, .long y10), (12, .long y12), (14, .long y14), (16, .int x16), (17, .int x17), (18, .int x18)] → gf_Model_compare_L23 F z  n u y8 y10 y12 y14 x16 x17 x18 = some r0 → gw_Gi p l e gr_Model_compare s m args below meth c D cA hs z r0 H locs ls 23 [] := by
  intro n
  induction n with
  | zero =>
    intro u y8 y10 y12 y14 x16 x17 x18 H locs ls  hW hl h
    cases h
  | succ n ih =>
    intro u y8 y10 y12 y14 x16 x17 x18 H locs ls  hW hl h
    exact gx_Model_compare_S23 F C hr hk  ih u y8 y10 y12 y14 x16 x17 x18  hW hl h

set_option maxHeartbeats 4000000 in
set_option maxRecDepth 20000 in
theorem gx_Model_compare_b0 {p : Program} {l : Launch} {e : Env} {s : State} {m : MethodId} {args : Array Value} {below : List Frame} {meth : Method} {c : Code} {D : va_G} {cA : Nat → ClassId} {hs : Nat → Nat} {z : gw_Sh} (F : Nat) {r0 : (Int32 × gw_St)} (C : gw_Cx p s m args c gb_Model_compare 25 R_Model D cA) (hr : meth.sig.returnType = (some .int)) (hk : meth.locks = false) (u : gw_St) (y0 : Int64) (y2 : Int64) (y4 : Int64) (y6 : Int64)  {H : Heap} {locs : List Loc} {ls : Array Slot} (hW : gw_Wx D cA hs z s u H locs) (hl : lv_has ls 25 [(0, .long y0), (2, .long y2), (4, .long y4), (6, .long y6)]) (h : gf_Model_compare_b0 F z   u y0 y2 y4 y6 = some r0) : gw_Gi p l e gr_Model_compare s m args below meth c D cA hs z r0 H locs ls 0 [] := by
  obtain ⟨hx, hb, hml, hown, hts, hK⟩ := id C
  unfold gf_Model_compare_b0 at h
  refine lv_lload_n hx hb gd_Model_compare_0 rfl (lv_at hl 0 rfl) ?_
  refine lv_lstore (lv' := [(8, .long y0), (0, .long y0), (2, .long y2), (4, .long y4), (6, .long y6)]) hx hb gd_Model_compare_1 hl (by decide) rfl (fun ls hl => ?_)
  refine lv_lload_n hx hb gd_Model_compare_3 rfl (lv_at hl 2 rfl) ?_
  refine lv_lstore (lv' := [(10, .long y2), (8, .long y0), (0, .long y0), (2, .long y2), (4, .long y4), (6, .long y6)]) hx hb gd_Model_compare_4 hl (by decide) rfl (fun ls hl => ?_)
  refine lv_lload hx hb gd_Model_compare_6 (lv_at hl 4 rfl) ?_
  refine lv_lstore (lv' := [(12, .long y4), (10, .long y2), (8, .long y0), (0, .long y0), (2, .long y2), (4, .long y4), (6, .long y6)]) hx hb gd_Model_compare_8 hl (by decide) rfl (fun ls hl => ?_)
  refine lv_lload hx hb gd_Model_compare_10 (lv_at hl 6 rfl) ?_
  refine lv_lstore (lv' := [(14, .long y6), (12, .long y4), (10, .long y2), (8, .long y0), (0, .long y0), (2, .long y2), (4, .long y4), (6, .long y6)]) hx hb gd_Model_compare_12 hl (by decide) rfl (fun ls hl => ?_)
  refine lv_iconst (v := 1) hx hb gd_Model_compare_14 (by decide) ?_
  refine lv_istore (lv' := [(16, .int 1), (14, .long y6), (12, .long y4), (10, .long y2), (8, .long y0), (0, .long y0), (2, .long y2), (4, .long y4), (6, .long y6)]) hx hb gd_Model_compare_15 hl (by decide) rfl (fun ls hl => ?_)
  refine lv_iconst (v := 0) hx hb gd_Model_compare_17 (by decide) ?_
  refine lv_istore (lv' := [(17, .int 0), (16, .int 1), (14, .long y6), (12, .long y4), (10, .long y2), (8, .long y0), (0, .long y0), (2, .long y2), (4, .long y4), (6, .long y6)]) hx hb gd_Model_compare_18 hl (by decide) rfl (fun ls hl => ?_)
  refine lv_iconst (v := 1) hx hb gd_Model_compare_20 (by decide) ?_
  refine lv_istore (lv' := [(18, .int 1), (17, .int 0), (16, .int 1), (14, .long y6), (12, .long y4), (10, .long y2), (8, .long y0), (0, .long y0), (2, .long y2), (4, .long y4), (6, .long y6)]) hx hb gd_Model_compare_21 hl (by decide) rfl (fun ls hl => ?_)
  exact gx_Model_compare_L23 F C hr hk  F u y0 y2 y4 y6 1 0 1 _ _ _  hW (lv_sub hl [6, 5, 4, 3, 2, 1, 0] rfl) h

set_option maxRecDepth 20000 in
theorem gc_Model_compare (l : Launch) {D : va_G} {cA : Nat → ClassId} {hs : Nat → Nat} {z : gw_Sh} (F : Nat) {u : gw_St} {r0 : (Int32 × gw_St)} {y0 : Int64} {y2 : Int64} {y4 : Int64} {y6 : Int64}  (h : gf_Model_compare F z u y0 y2 y4 y6 = some r0) (sz : Nat) : gw_Mi l gy_Model_compare gb_Model_compare 25 (some .int) gr_Model_compare [.long y0, .long y2, .long y4, .long y6] D cA hs z u sz r0 := by
  refine gw_enter (by decide) (Nat.le_of_ble_eq_true rfl) ?_
  intro p e s m below meth c ls hsz C hW hr hk _ hl
  subst hsz
  exact gx_Model_compare_b0 F C hr hk u y0 y2 y4 y6  hW (lv_sub hl [0, 1, 2, 3] rfl) h
-- GearDeskModel.isLessList(II)Z
theorem gk_429 : Cond.fieldLink R_Model 177 R_Model "bestDriver" "I" ∈ gt_T := gt_m6 (List.mem_of_getElem? (i := 68) rfl) rfl
theorem gk_430 : Cond.fieldLink R_Model 180 R_Model "bestDriven" "I" ∈ gt_T := gt_m6 (List.mem_of_getElem? (i := 69) rfl) rfl
def gy_Model_isLessList : MethodName := ⟨R_Model, "isLessList", "(II)Z"⟩
abbrev gb_Model_isLessList : ByteArray := prog_11_method_16_code
theorem gk_431 : Cond.code gy_Model_isLessList gb_Model_isLessList 4 (some .boolean) ∈ gt_T := gt_m7 (List.mem_of_getElem? (i := 29) rfl) rfl
def gr_Model_isLessList : Room := gw_rm 2 86
theorem gm_Model_isLessList : gw_Mth gy_Model_isLessList gb_Model_isLessList 4 (some .boolean) 2 := ⟨gk_431, gk_377, ⟨by decide +kernel, by decide +kernel⟩, by decide +kernel⟩
theorem gd_Model_isLessList_0 : decode gb_Model_isLessList 0 = .ok (.iconst 0, 1) := by decide +kernel
theorem gd_Model_isLessList_1 : decode gb_Model_isLessList 1 = .ok (.istore_n 3, 1) := by decide +kernel
theorem gd_Model_isLessList_2 : decode gb_Model_isLessList 2 = .ok (.iload_n 3, 1) := by decide +kernel
theorem gd_Model_isLessList_3 : decode gb_Model_isLessList 3 = .ok (.aload_n 0, 1) := by decide +kernel
theorem gd_Model_isLessList_4 : decode gb_Model_isLessList 4 = .ok (.getfield 137, 3) := by decide +kernel
theorem gd_Model_isLessList_7 : decode gb_Model_isLessList 7 = .ok (.if_icmp .ge 93, 3) := by decide +kernel
theorem gd_Model_isLessList_10 : decode gb_Model_isLessList 10 = .ok (.aload_n 0, 1) := by decide +kernel
theorem gd_Model_isLessList_11 : decode gb_Model_isLessList 11 = .ok (.iload_n 1, 1) := by decide +kernel
theorem gd_Model_isLessList_12 : decode gb_Model_isLessList 12 = .ok (.iload_n 3, 1) := by decide +kernel
theorem gd_Model_isLessList_13 : decode gb_Model_isLessList 13 = .ok (.invokevirtual 157, 3) := by decide +kernel
theorem gd_Model_isLessList_16 : decode gb_Model_isLessList 16 = .ok (.aload_n 0, 1) := by decide +kernel
theorem gd_Model_isLessList_17 : decode gb_Model_isLessList 17 = .ok (.aload_n 0, 1) := by decide +kernel
theorem gd_Model_isLessList_18 : decode gb_Model_isLessList 18 = .ok (.getfield 177, 3) := by decide +kernel
theorem gd_Model_isLessList_21 : decode gb_Model_isLessList 21 = .ok (.iload_n 3, 1) := by decide +kernel
theorem gd_Model_isLessList_22 : decode gb_Model_isLessList 22 = .ok (.invokevirtual 157, 3) := by decide +kernel
theorem gd_Model_isLessList_25 : decode gb_Model_isLessList 25 = .ok (.if_icmp .eq 27, 3) := by decide +kernel
theorem gd_Model_isLessList_28 : decode gb_Model_isLessList 28 = .ok (.aload_n 0, 1) := by decide +kernel
theorem gd_Model_isLessList_29 : decode gb_Model_isLessList 29 = .ok (.iload_n 1, 1) := by decide +kernel
theorem gd_Model_isLessList_30 : decode gb_Model_isLessList 30 = .ok (.iload_n 3, 1) := by decide +kernel
theorem gd_Model_isLessList_31 : decode gb_Model_isLessList 31 = .ok (.invokevirtual 157, 3) := by decide +kernel
theorem gd_Model_isLessList_34 : decode gb_Model_isLessList 34 = .ok (.aload_n 0, 1) := by decide +kernel
theorem gd_Model_isLessList_35 : decode gb_Model_isLessList 35 = .ok (.aload_n 0, 1) := by decide +kernel
theorem gd_Model_isLessList_36 : decode gb_Model_isLessList 36 = .ok (.getfield 177, 3) := by decide +kernel
theorem gd_Model_isLessList_39 : decode gb_Model_isLessList 39 = .ok (.iload_n 3, 1) := by decide +kernel
theorem gd_Model_isLessList_40 : decode gb_Model_isLessList 40 = .ok (.invokevirtual 157, 3) := by decide +kernel
theorem gd_Model_isLessList_43 : decode gb_Model_isLessList 43 = .ok (.if_icmp .ge 7, 3) := by decide +kernel
theorem gd_Model_isLessList_46 : decode gb_Model_isLessList 46 = .ok (.iconst 1, 1) := by decide +kernel
theorem gd_Model_isLessList_47 : decode gb_Model_isLessList 47 = .ok (.goto 4, 3) := by decide +kernel
theorem gd_Model_isLessList_50 : decode gb_Model_isLessList 50 = .ok (.iconst 0, 1) := by decide +kernel
theorem gd_Model_isLessList_51 : decode gb_Model_isLessList 51 = .ok (.ireturn, 1) := by decide +kernel
theorem gd_Model_isLessList_52 : decode gb_Model_isLessList 52 = .ok (.aload_n 0, 1) := by decide +kernel
theorem gd_Model_isLessList_53 : decode gb_Model_isLessList 53 = .ok (.iload_n 2, 1) := by decide +kernel
theorem gd_Model_isLessList_54 : decode gb_Model_isLessList 54 = .ok (.iload_n 3, 1) := by decide +kernel
theorem gd_Model_isLessList_55 : decode gb_Model_isLessList 55 = .ok (.invokevirtual 157, 3) := by decide +kernel
theorem gd_Model_isLessList_58 : decode gb_Model_isLessList 58 = .ok (.aload_n 0, 1) := by decide +kernel
theorem gd_Model_isLessList_59 : decode gb_Model_isLessList 59 = .ok (.aload_n 0, 1) := by decide +kernel
theorem gd_Model_isLessList_60 : decode gb_Model_isLessList 60 = .ok (.getfield 180, 3) := by decide +kernel
theorem gd_Model_isLessList_63 : decode gb_Model_isLessList 63 = .ok (.iload_n 3, 1) := by decide +kernel
theorem gd_Model_isLessList_64 : decode gb_Model_isLessList 64 = .ok (.invokevirtual 157, 3) := by decide +kernel
theorem gd_Model_isLessList_67 : decode gb_Model_isLessList 67 = .ok (.if_icmp .eq 27, 3) := by decide +kernel
theorem gd_Model_isLessList_70 : decode gb_Model_isLessList 70 = .ok (.aload_n 0, 1) := by decide +kernel
theorem gd_Model_isLessList_71 : decode gb_Model_isLessList 71 = .ok (.iload_n 2, 1) := by decide +kernel
theorem gd_Model_isLessList_72 : decode gb_Model_isLessList 72 = .ok (.iload_n 3, 1) := by decide +kernel
theorem gd_Model_isLessList_73 : decode gb_Model_isLessList 73 = .ok (.invokevirtual 157, 3) := by decide +kernel
theorem gd_Model_isLessList_76 : decode gb_Model_isLessList 76 = .ok (.aload_n 0, 1) := by decide +kernel
theorem gd_Model_isLessList_77 : decode gb_Model_isLessList 77 = .ok (.aload_n 0, 1) := by decide +kernel
theorem gd_Model_isLessList_78 : decode gb_Model_isLessList 78 = .ok (.getfield 180, 3) := by decide +kernel
theorem gd_Model_isLessList_81 : decode gb_Model_isLessList 81 = .ok (.iload_n 3, 1) := by decide +kernel
theorem gd_Model_isLessList_82 : decode gb_Model_isLessList 82 = .ok (.invokevirtual 157, 3) := by decide +kernel
theorem gd_Model_isLessList_85 : decode gb_Model_isLessList 85 = .ok (.if_icmp .ge 7, 3) := by decide +kernel
theorem gd_Model_isLessList_88 : decode gb_Model_isLessList 88 = .ok (.iconst 1, 1) := by decide +kernel
theorem gd_Model_isLessList_89 : decode gb_Model_isLessList 89 = .ok (.goto 4, 3) := by decide +kernel
theorem gd_Model_isLessList_92 : decode gb_Model_isLessList 92 = .ok (.iconst 0, 1) := by decide +kernel
theorem gd_Model_isLessList_93 : decode gb_Model_isLessList 93 = .ok (.ireturn, 1) := by decide +kernel
theorem gd_Model_isLessList_94 : decode gb_Model_isLessList 94 = .ok (.iinc 3 1, 3) := by decide +kernel
theorem gd_Model_isLessList_97 : decode gb_Model_isLessList 97 = .ok (.goto (-95), 3) := by decide +kernel
theorem gd_Model_isLessList_100 : decode gb_Model_isLessList 100 = .ok (.iconst 0, 1) := by decide +kernel
theorem gd_Model_isLessList_101 : decode gb_Model_isLessList 101 = .ok (.ireturn, 1) := by decide +kernel
def gf_Model_isLessList_b51 (F : Nat) (z : gw_Sh)  (u : gw_St) (sx0 : Int32) : Option (Int32 × gw_St) :=
  if ¬ (sx0 &&& 1 = sx0) then none else some (sx0, u)
def gf_Model_isLessList_b93 (F : Nat) (z : gw_Sh)  (u : gw_St) (sx0 : Int32) : Option (Int32 × gw_St) :=
  if ¬ (sx0 &&& 1 = sx0) then none else some (sx0, u)
def gf_Model_isLessList_S2 (F : Nat) (z : gw_Sh)  (rc_2 : gw_St → Nat → Int32 → Int32 → Int32 → Option (Int32 × gw_St)) (u : gw_St) (t0 : Nat) (x1 : Int32) (x2 : Int32) (x3 : Int32) : Option (Int32 × gw_St) :=
  if (u.1 t0 4) ≤ x3 then (if ¬ ((0 : Int32) &&& 1 = (0 : Int32)) then none else some ((0 : Int32), u)) else (gf_cl (gf_Model_wheel F z u t0 x1 x3) fun a7 u5 => gf_cl (gf_Model_wheel F z u5 t0 (u5.1 t0 16) x3) fun a10 u8 => if a7 = a10 then (gf_cl (gf_Model_wheel F z u8 t0 x2 x3) fun a14 u12 => gf_cl (gf_Model_wheel F z u12 t0 (u12.1 t0 17) x3) fun a17 u15 => if a14 = a17 then (gf_nm (x3 + 1) fun a19 => rc_2 u15 t0 x1 x2 a19) else (gf_cl (gf_Model_wheel F z u15 t0 x2 x3) fun a23 u21 => gf_cl (gf_Model_wheel F z u21 t0 (u21.1 t0 17) x3) fun a26 u24 => if a26 ≤ a23 then (gf_Model_isLessList_b93 F z  u24 0) else (gf_Model_isLessList_b93 F z  u24 1))) else (gf_cl (gf_Model_wheel F z u8 t0 x1 x3) fun a30 u28 => gf_cl (gf_Model_wheel F z u28 t0 (u28.1 t0 16) x3) fun a33 u31 => if a33 ≤ a30 then (gf_Model_isLessList_b51 F z  u31 0) else (gf_Model_isLessList_b51 F z  u31 1)))
def gf_Model_isLessList_L2 (F : Nat) (z : gw_Sh)  : Nat → gw_St → Nat → Int32 → Int32 → Int32 → Option (Int32 × gw_St)
  | 0 => fun _ _ _ _ _ => none
  | n + 1 => fun u t0 x1 x2 x3 => gf_Model_isLessList_S2 F z  (gf_Model_isLessList_L2 F z  n) u t0 x1 x2 x3
def gf_Model_isLessList_b0 (F : Nat) (z : gw_Sh)  (u : gw_St) (t0 : Nat) (x1 : Int32) (x2 : Int32) : Option (Int32 × gw_St) :=
  gf_Model_isLessList_L2 F z  F u t0 x1 x2 0
def gf_Model_isLessList (F : Nat) (z : gw_Sh) (u : gw_St) (t0 : Nat) (x1 : Int32) (x2 : Int32) : Option (Int32 × gw_St) := gf_Model_isLessList_b0 F z  u t0 x1 x2
set_option maxHeartbeats 4000000 in
set_option maxRecDepth 20000 in
theorem gx_Model_isLessList_b51 {p : Program} {l : Launch} {e : Env} {s : State} {m : MethodId} {args : Array Value} {below : List Frame} {meth : Method} {c : Code} {D : va_G} {cA : Nat → ClassId} {hs : Nat → Nat} {z : gw_Sh} (F : Nat) {r0 : (Int32 × gw_St)} (C : gw_Cx p s m args c gb_Model_isLessList 4 R_Model D cA) (hr : meth.sig.returnType = (some .boolean)) (hk : meth.locks = false) (u : gw_St) (sx0 : Int32)  {H : Heap} {locs : List Loc} {ls : Array Slot} (hW : gw_Wx D cA hs z s u H locs) (hl : lv_has ls 4 []) (h : gf_Model_isLessList_b51 F z   u sx0 = some r0) : gw_Gi p l e gr_Model_isLessList s m args below meth c D cA hs z r0 H locs ls 51 [.int sx0] := by
  obtain ⟨hx, hb, hml, hown, hts, hK⟩ := id C
  unfold gf_Model_isLessList_b51 at h
  obtain ⟨g1, h⟩ := gf_if_ok h
  obtain rfl := Option.some.inj h
  exact gw_zret C hW hr (Decidable.not_not.mp g1) hk gd_Model_isLessList_51

set_option maxHeartbeats 4000000 in
set_option maxRecDepth 20000 in
theorem gx_Model_isLessList_b93 {p : Program} {l : Launch} {e : Env} {s : State} {m : MethodId} {args : Array Value} {below : List Frame} {meth : Method} {c : Code} {D : va_G} {cA : Nat → ClassId} {hs : Nat → Nat} {z : gw_Sh} (F : Nat) {r0 : (Int32 × gw_St)} (C : gw_Cx p s m args c gb_Model_isLessList 4 R_Model D cA) (hr : meth.sig.returnType = (some .boolean)) (hk : meth.locks = false) (u : gw_St) (sx0 : Int32)  {H : Heap} {locs : List Loc} {ls : Array Slot} (hW : gw_Wx D cA hs z s u H locs) (hl : lv_has ls 4 []) (h : gf_Model_isLessList_b93 F z   u sx0 = some r0) : gw_Gi p l e gr_Model_isLessList s m args below meth c D cA hs z r0 H locs ls 93 [.int sx0] := by
  obtain ⟨hx, hb, hml, hown, hts, hK⟩ := id C
  unfold gf_Model_isLessList_b93 at h
  obtain ⟨g2, h⟩ := gf_if_ok h
  obtain rfl := Option.some.inj h
  exact gw_zret C hW hr (Decidable.not_not.mp g2) hk gd_Model_isLessList_93

set_option maxHeartbeats 4000000 in
set_option maxRecDepth 20000 in
theorem gx_Model_isLessList_S2 {p : Program} {l : Launch} {e : Env} {s : State} {m : MethodId} {args : Array Value} {below : List Frame} {meth : Method} {c : Code} {D : va_G} {cA : Nat → ClassId} {hs : Nat → Nat} {z : gw_Sh} (F : Nat) {r0 : (Int32 × gw_St)} (C : gw_Cx p s m args c gb_Model_isLessList 4 R_Model D cA) (hr : meth.sig.returnType = (some .boolean)) (hk : meth.locks = false) {rc_2 : gw_St → Nat → Int32 → Int32 → Int32 → Option (Int32 × gw_St)} (k_2 : ∀ (u : gw_St) (t0 : Nat) (x1 : Int32) (x2 : Int32) (x3 : Int32) (H : Heap) (locs : List Loc) (ls : Array Slot), gw_ok z t0 9 → gw_Wx D cA hs z s u H locs → lv_has ls 4 [(0, .ref (hs t0)), (1, .int x1), (2, .int x2), (3, .int x3)] → rc_2 u t0 x1 x2 x3 = some r0 → gw_Gi p l e gr_Model_isLessList s m args below meth c D cA hs z r0 H locs ls 2 []) (u : gw_St) (t0 : Nat) (x1 : Int32) (x2 : Int32) (x3 : Int32) (o_t0 : gw_ok z t0 9) {H : Heap} {locs : List Loc} {ls : Array Slot} (hW : gw_Wx D cA hs z s u H locs) (hl : lv_has ls 4 [(0, .ref (hs t0)), (1, .int x1), (2, .int x2), (3, .int x3)]) (h : gf_Model_isLessList_S2 F z  rc_2 u t0 x1 x2 x3 = some r0) : gw_Gi p l e gr_Model_isLessList s m args below meth c D cA hs z r0 H locs ls 2 [] := by
  obtain ⟨hx, hb, hml, hown, hts, hK⟩ := id C
  unfold gf_Model_isLessList_S2 at h
  refine lv_iload_n hx hb gd_Model_isLessList_2 rfl (lv_at hl 3 rfl) ?_
  refine lv_aload_n hx hb gd_Model_isLessList_3 rfl (lv_at hl 0 rfl) ?_
  refine gw_geti (k := 4) (ref := R_Model) C hW o_t0 (by decide) rfl gi_Model rfl (by decide) rfl rfl gk_391 gd_Model_isLessList_4 ?_
  refine lv_icmp_ge (tgt := 100) hx hb gd_Model_isLessList_7 (by decide) (fun c3 => ?_) (fun c3 => ?_)
  · have h := gf_t c3 h
    refine lv_iconst (v := 0) hx hb gd_Model_isLessList_100 (by decide) ?_
    obtain ⟨g4, h⟩ := gf_if_ok h
    obtain rfl := Option.some.inj h
    exact gw_zret C hW hr (Decidable.not_not.mp g4) hk gd_Model_isLessList_101
  · have h := gf_f c3 h
    refine lv_aload_n hx hb gd_Model_isLessList_10 rfl (lv_at hl 0 rfl) ?_
    refine lv_iload_n hx hb gd_Model_isLessList_11 rfl (lv_at hl 1 rfl) ?_
    refine lv_iload_n hx hb gd_Model_isLessList_12 rfl (lv_at hl 3 rfl) ?_
    obtain ⟨a7, u5, d6, h⟩ := gf_cl_ok h
    refine gw_callVi (K := R_Model) (As := [.int x1, .int x3]) (rest := []) C hW (fun _ h => Or.inr h) hl.1 gm_Model_wheel (gc_Model_wheel l F o_t0 d6 _) gk_404 gk_405 gk_406 o_t0 (by decide) rfl rfl rfl ⟨Nat.le_of_ble_eq_true rfl, Nat.le_of_ble_eq_true rfl⟩ ⟨Nat.zero_le _, Nat.zero_le _⟩ rfl rfl (Nat.le_of_ble_eq_true rfl) gd_Model_isLessList_13 (fun H locs hW => ?_)
    refine lv_aload_n hx hb gd_Model_isLessList_16 rfl (lv_at hl 0 rfl) ?_
    refine lv_aload_n hx hb gd_Model_isLessList_17 rfl (lv_at hl 0 rfl) ?_
    refine gw_geti (k := 16) (ref := R_Model) C hW o_t0 (by decide) rfl gi_Model rfl (by decide) rfl rfl gk_429 gd_Model_isLessList_18 ?_
    refine lv_iload_n hx hb gd_Model_isLessList_21 rfl (lv_at hl 3 rfl) ?_
    obtain ⟨a10, u8, d9, h⟩ := gf_cl_ok h
    refine gw_callVi (K := R_Model) (As := [.int (u5.1 t0 16), .int x3]) (rest := [.int a7]) C hW (fun _ h => Or.inr h) hl.1 gm_Model_wheel (gc_Model_wheel l F o_t0 d9 _) gk_404 gk_405 gk_406 o_t0 (by decide) rfl rfl rfl ⟨Nat.le_of_ble_eq_true rfl, Nat.le_of_ble_eq_true rfl⟩ ⟨Nat.zero_le _, Nat.zero_le _⟩ rfl rfl (Nat.le_of_ble_eq_true rfl) gd_Model_isLessList_22 (fun H locs hW => ?_)
    refine lv_icmp_eq (tgt := 52) hx hb gd_Model_isLessList_25 (by decide) (fun c11 => ?_) (fun c11 => ?_)
    · have h := gf_t c11 h
      refine lv_aload_n hx hb gd_Model_isLessList_52 rfl (lv_at hl 0 rfl) ?_
      refine lv_iload_n hx hb gd_Model_isLessList_53 rfl (lv_at hl 2 rfl) ?_
      refine lv_iload_n hx hb gd_Model_isLessList_54 rfl (lv_at hl 3 rfl) ?_
      obtain ⟨a14, u12, d13, h⟩ := gf_cl_ok h
      refine gw_callVi (K := R_Model) (As := [.int x2, .int x3]) (rest := []) C hW (fun _ h => Or.inr h) hl.1 gm_Model_wheel (gc_Model_wheel l F o_t0 d13 _) gk_404 gk_405 gk_406 o_t0 (by decide) rfl rfl rfl ⟨Nat.le_of_ble_eq_true rfl, Nat.le_of_ble_eq_true rfl⟩ ⟨Nat.zero_le _, Nat.zero_le _⟩ rfl rfl (Nat.le_of_ble_eq_true rfl) gd_Model_isLessList_55 (fun H locs hW => ?_)
      refine lv_aload_n hx hb gd_Model_isLessList_58 rfl (lv_at hl 0 rfl) ?_
      refine lv_aload_n hx hb gd_Model_isLessList_59 rfl (lv_at hl 0 rfl) ?_
      refine gw_geti (k := 17) (ref := R_Model) C hW o_t0 (by decide) rfl gi_Model rfl (by decide) rfl rfl gk_430 gd_Model_isLessList_60 ?_
      refine lv_iload_n hx hb gd_Model_isLessList_63 rfl (lv_at hl 3 rfl) ?_
      obtain ⟨a17, u15, d16, h⟩ := gf_cl_ok h
      refine gw_callVi (K := R_Model) (As := [.int (u12.1 t0 17), .int x3]) (rest := [.int a14]) C hW (fun _ h => Or.inr h) hl.1 gm_Model_wheel (gc_Model_wheel l F o_t0 d16 _) gk_404 gk_405 gk_406 o_t0 (by decide) rfl rfl rfl ⟨Nat.le_of_ble_eq_true rfl, Nat.le_of_ble_eq_true rfl⟩ ⟨Nat.zero_le _, Nat.zero_le _⟩ rfl rfl (Nat.le_of_ble_eq_true rfl) gd_Model_isLessList_64 (fun H locs hW => ?_)
      refine lv_icmp_eq (tgt := 94) hx hb gd_Model_isLessList_67 (by decide) (fun c18 => ?_) (fun c18 => ?_)
      · have h := gf_t c18 h
        obtain ⟨a19, e20⟩ : ∃ y : Int32, y = x3 + 1 := ⟨_, rfl⟩
        have h := gf_nm_ok e20 h
        refine lv_iinc (v := a19) (lv' := [(3, .int a19), (0, .ref (hs t0)), (1, .int x1), (2, .int x2)]) hx hb gd_Model_isLessList_94 hl (k := 3) rfl (by rw [e20]; rfl) (by decide) rfl (fun ls hl => ?_)
        refine lv_goto (tgt := 2) hx hb gd_Model_isLessList_97 (by decide) ?_
        exact k_2 u15 t0 x1 x2 a19 _ _ _ o_t0 hW (lv_sub hl [1, 2, 3, 0] rfl) h
      · have h := gf_f c18 h
        refine lv_aload_n hx hb gd_Model_isLessList_70 rfl (lv_at hl 0 rfl) ?_
        refine lv_iload_n hx hb gd_Model_isLessList_71 rfl (lv_at hl 2 rfl) ?_
        refine lv_iload_n hx hb gd_Model_isLessList_72 rfl (lv_at hl 3 rfl) ?_
        obtain ⟨a23, u21, d22, h⟩ := gf_cl_ok h
        refine gw_callVi (K := R_Model) (As := [.int x2, .int x3]) (rest := []) C hW (fun _ h => Or.inr h) hl.1 gm_Model_wheel (gc_Model_wheel l F o_t0 d22 _) gk_404 gk_405 gk_406 o_t0 (by decide) rfl rfl rfl ⟨Nat.le_of_ble_eq_true rfl, Nat.le_of_ble_eq_true rfl⟩ ⟨Nat.zero_le _, Nat.zero_le _⟩ rfl rfl (Nat.le_of_ble_eq_true rfl) gd_Model_isLessList_73 (fun H locs hW => ?_)
        refine lv_aload_n hx hb gd_Model_isLessList_76 rfl (lv_at hl 0 rfl) ?_
        refine lv_aload_n hx hb gd_Model_isLessList_77 rfl (lv_at hl 0 rfl) ?_
        refine gw_geti (k := 17) (ref := R_Model) C hW o_t0 (by decide) rfl gi_Model rfl (by decide) rfl rfl gk_430 gd_Model_isLessList_78 ?_
        refine lv_iload_n hx hb gd_Model_isLessList_81 rfl (lv_at hl 3 rfl) ?_
        obtain ⟨a26, u24, d25, h⟩ := gf_cl_ok h
        refine gw_callVi (K := R_Model) (As := [.int (u21.1 t0 17), .int x3]) (rest := [.int a23]) C hW (fun _ h => Or.inr h) hl.1 gm_Model_wheel (gc_Model_wheel l F o_t0 d25 _) gk_404 gk_405 gk_406 o_t0 (by decide) rfl rfl rfl ⟨Nat.le_of_ble_eq_true rfl, Nat.le_of_ble_eq_true rfl⟩ ⟨Nat.zero_le _, Nat.zero_le _⟩ rfl rfl (Nat.le_of_ble_eq_true rfl) gd_Model_isLessList_82 (fun H locs hW => ?_)
        refine lv_icmp_ge (tgt := 92) hx hb gd_Model_isLessList_85 (by decide) (fun c27 => ?_) (fun c27 => ?_)
        · have h := gf_t c27 h
          refine lv_iconst (v := 0) hx hb gd_Model_isLessList_92 (by decide) ?_
          exact gx_Model_isLessList_b93 F C hr hk  u24 0  hW (lv_sub hl [] rfl) h
        · have h := gf_f c27 h
          refine lv_iconst (v := 1) hx hb gd_Model_isLessList_88 (by decide) ?_
          refine lv_goto (tgt := 93) hx hb gd_Model_isLessList_89 (by decide) ?_
          exact gx_Model_isLessList_b93 F C hr hk  u24 1  hW (lv_sub hl [] rfl) h
    · have h := gf_f c11 h
      refine lv_aload_n hx hb gd_Model_isLessList_28 rfl (lv_at hl 0 rfl) ?_
      refine lv_iload_n hx hb gd_Model_isLessList_29 rfl (lv_at hl 1 rfl) ?_
      refine lv_iload_n hx hb gd_Model_isLessList_30 rfl (lv_at hl 3 rfl) ?_
      obtain ⟨a30, u28, d29, h⟩ := gf_cl_ok h
      refine gw_callVi (K := R_Model) (As := [.int x1, .int x3]) (rest := []) C hW (fun _ h => Or.inr h) hl.1 gm_Model_wheel (gc_Model_wheel l F o_t0 d29 _) gk_404 gk_405 gk_406 o_t0 (by decide) rfl rfl rfl ⟨Nat.le_of_ble_eq_true rfl, Nat.le_of_ble_eq_true rfl⟩ ⟨Nat.zero_le _, Nat.zero_le _⟩ rfl rfl (Nat.le_of_ble_eq_true rfl) gd_Model_isLessList_31 (fun H locs hW => ?_)
      refine lv_aload_n hx hb gd_Model_isLessList_34 rfl (lv_at hl 0 rfl) ?_
      refine lv_aload_n hx hb gd_Model_isLessList_35 rfl (lv_at hl 0 rfl) ?_
      refine gw_geti (k := 16) (ref := R_Model) C hW o_t0 (by decide) rfl gi_Model rfl (by decide) rfl rfl gk_429 gd_Model_isLessList_36 ?_
      refine lv_iload_n hx hb gd_Model_isLessList_39 rfl (lv_at hl 3 rfl) ?_
      obtain ⟨a33, u31, d32, h⟩ := gf_cl_ok h
      refine gw_callVi (K := R_Model) (As := [.int (u28.1 t0 16), .int x3]) (rest := [.int a30]) C hW (fun _ h => Or.inr h) hl.1 gm_Model_wheel (gc_Model_wheel l F o_t0 d32 _) gk_404 gk_405 gk_406 o_t0 (by decide) rfl rfl rfl ⟨Nat.le_of_ble_eq_true rfl, Nat.le_of_ble_eq_true rfl⟩ ⟨Nat.zero_le _, Nat.zero_le _⟩ rfl rfl (Nat.le_of_ble_eq_true rfl) gd_Model_isLessList_40 (fun H locs hW => ?_)
      refine lv_icmp_ge (tgt := 50) hx hb gd_Model_isLessList_43 (by decide) (fun c34 => ?_) (fun c34 => ?_)
      · have h := gf_t c34 h
        refine lv_iconst (v := 0) hx hb gd_Model_isLessList_50 (by decide) ?_
        exact gx_Model_isLessList_b51 F C hr hk  u31 0  hW (lv_sub hl [] rfl) h
      · have h := gf_f c34 h
        refine lv_iconst (v := 1) hx hb gd_Model_isLessList_46 (by decide) ?_
        refine lv_goto (tgt := 51) hx hb gd_Model_isLessList_47 (by decide) ?_
        exact gx_Model_isLessList_b51 F C hr hk  u31 1  hW (lv_sub hl [] rfl) h
set_option maxHeartbeats 4000000 in
set_option maxRecDepth 20000 in
theorem gx_Model_isLessList_L2 {p : Program} {l : Launch} {e : Env} {s : State} {m : MethodId} {args : Array Value} {below : List Frame} {meth : Method} {c : Code} {D : va_G} {cA : Nat → ClassId} {hs : Nat → Nat} {z : gw_Sh} (F : Nat) {r0 : (Int32 × gw_St)} (C : gw_Cx p s m args c gb_Model_isLessList 4 R_Model D cA) (hr : meth.sig.returnType = (some .boolean)) (hk : meth.locks = false) : ∀ (n : Nat), ∀ (u : gw_St) (t0 : Nat) (x1 : Int32) (x2 : Int32) (x3 : Int32) (H : Heap) (locs : List Loc) (ls : Array Slot), gw_ok z t0 9 → gw_Wx D cA hs z s u H locs → lv_has ls 4 [(0, .ref (hs t0)), (1, .int x1), (2, .int x2), (3, .int x3)] → gf_Model_isLessList_L2 F z  n u t0 x1 x2 x3 = some r0 → gw_Gi p l e gr_Model_isLessList s m args below meth c D cA hs z r0 H locs ls 2 [] := by
  intro n
  induction n with
  | zero =>
    intro u t0 x1 x2 x3 H locs ls o_t0 hW hl h
    cases h
  | succ n ih =>
    intro u t0 x1 x2 x3 H locs ls o_t0 hW hl h
    exact gx_Model_isLessList_S2 F C hr hk  ih u t0 x1 x2 x3 o_t0 hW hl h

set_option maxHeartbeats 4000000 in
set_option maxRecDepth 20000 in
theorem gx_Model_isLessList_b0 {p : Program} {l : Launch} {e : Env} {s : State} {m : MethodId} {args : Array Value} {below : List Frame} {meth : Method} {c : Code} {D : va_G} {cA : Nat → ClassId} {hs : Nat → Nat} {z : gw_Sh} (F : Nat) {r0 : (Int32 × gw_St)} (C : gw_Cx p s m args c gb_Model_isLessList 4 R_Model D cA) (hr : meth.sig.returnType = (some .boolean)) (hk : meth.locks = false) (u : gw_St) (t0 : Nat) (x1 : Int32) (x2 : Int32) (o_t0 : gw_ok z t0 9) {H : Heap} {locs : List Loc} {ls : Array Slot} (hW : gw_Wx D cA hs z s u H locs) (hl : lv_has ls 4 [(0, .ref (hs t0)), (1, .int x1), (2, .int x2)]) (h : gf_Model_isLessList_b0 F z   u t0 x1 x2 = some r0) : gw_Gi p l e gr_Model_isLessList s m args below meth c D cA hs z r0 H locs ls 0 [] := by
  obtain ⟨hx, hb, hml, hown, hts, hK⟩ := id C
  unfold gf_Model_isLessList_b0 at h
  refine lv_iconst (v := 0) hx hb gd_Model_isLessList_0 (by decide) ?_
  refine lv_istore_n (lv' := [(3, .int 0), (0, .ref (hs t0)), (1, .int x1), (2, .int x2)]) hx hb gd_Model_isLessList_1 rfl hl (by decide) rfl (fun ls hl => ?_)
  exact gx_Model_isLessList_L2 F C hr hk  F u t0 x1 x2 0 _ _ _ o_t0 hW (lv_sub hl [1, 2, 3, 0] rfl) h

set_option maxRecDepth 20000 in
theorem gc_Model_isLessList (l : Launch) {D : va_G} {cA : Nat → ClassId} {hs : Nat → Nat} {z : gw_Sh} (F : Nat) {u : gw_St} {r0 : (Int32 × gw_St)} {t0 : Nat} {x1 : Int32} {x2 : Int32} (o_t0 : gw_ok z t0 9) (h : gf_Model_isLessList F z u t0 x1 x2 = some r0) (sz : Nat) : gw_Mi l gy_Model_isLessList gb_Model_isLessList 4 (some .boolean) gr_Model_isLessList [.ref (hs t0), .int x1, .int x2] D cA hs z u sz r0 := by
  refine gw_enter (by decide) (Nat.le_of_ble_eq_true rfl) ?_
  intro p e s m below meth c ls hsz C hW hr hk _ hl
  subst hsz
  exact gx_Model_isLessList_b0 F C hr hk u t0 x1 x2 o_t0 hW (lv_sub hl [0, 1, 2] rfl) h
-- GearDeskModel.trial(II)V
theorem gk_432 : Cond.fieldLink R_Model 187 R_Model "bestOver" "J" ∈ gt_T := gt_m6 (List.mem_of_getElem? (i := 65) rfl) rfl
theorem gk_433 : Cond.fieldLink R_Model 183 R_Model "bestUnder" "J" ∈ gt_T := gt_m6 (List.mem_of_getElem? (i := 66) rfl) rfl
theorem gk_434 : Cond.fieldLink R_Model 194 R_Model "bestTeeth" "I" ∈ gt_T := gt_m6 (List.mem_of_getElem? (i := 67) rfl) rfl
theorem gk_435 : Cond.methodLink R_Model 197 gy_Model_isLessList ∈ gt_T := gt_m7 (List.mem_of_getElem? (i := 26) rfl) rfl
theorem gk_436 : Cond.instanceMethod gy_Model_isLessList ∈ gt_T := gt_m7 (List.mem_of_getElem? (i := 28) rfl) rfl
theorem gk_437 : Cond.selects R_Model gy_Model_isLessList gy_Model_isLessList ∈ gt_T := gt_p3 (List.mem_of_getElem? (i := 10) rfl) rfl
theorem gk_438 : Cond.methodLink R_Model 190 gy_Model_compare ∈ gt_T := gt_m7 (List.mem_of_getElem? (i := 23) rfl) rfl
theorem gk_439 : Cond.static gy_Model_compare ∈ gt_T := gt_m7 (List.mem_of_getElem? (i := 24) rfl) rfl
def gy_Model_trial : MethodName := ⟨R_Model, "trial", "(II)V"⟩
abbrev gb_Model_trial : ByteArray := prog_11_method_17_code
theorem gk_440 : Cond.code gy_Model_trial gb_Model_trial 12 none ∈ gt_T := gt_m7 (List.mem_of_getElem? (i := 22) rfl) rfl
def gr_Model_trial : Room := gw_rm 3 109
theorem gm_Model_trial : gw_Mth gy_Model_trial gb_Model_trial 12 none 2 := ⟨gk_440, gk_377, ⟨by decide +kernel, by decide +kernel⟩, by decide +kernel⟩
theorem gd_Model_trial_0 : decode gb_Model_trial 0 = .ok (.aload_n 0, 1) := by decide +kernel
theorem gd_Model_trial_1 : decode gb_Model_trial 1 = .ok (.getfield 8, 3) := by decide +kernel
theorem gd_Model_trial_4 : decode gb_Model_trial 4 = .ok (.iload_n 1, 1) := by decide +kernel
theorem gd_Model_trial_5 : decode gb_Model_trial 5 = .ok (.iaload, 1) := by decide +kernel
theorem gd_Model_trial_6 : decode gb_Model_trial 6 = .ok (.i2l, 1) := by decide +kernel
theorem gd_Model_trial_7 : decode gb_Model_trial 7 = .ok (.aload_n 0, 1) := by decide +kernel
theorem gd_Model_trial_8 : decode gb_Model_trial 8 = .ok (.getfield 134, 3) := by decide +kernel
theorem gd_Model_trial_11 : decode gb_Model_trial 11 = .ok (.i2l, 1) := by decide +kernel
theorem gd_Model_trial_12 : decode gb_Model_trial 12 = .ok (.lmul, 1) := by decide +kernel
theorem gd_Model_trial_13 : decode gb_Model_trial 13 = .ok (.aload_n 0, 1) := by decide +kernel
theorem gd_Model_trial_14 : decode gb_Model_trial 14 = .ok (.getfield 8, 3) := by decide +kernel
theorem gd_Model_trial_17 : decode gb_Model_trial 17 = .ok (.iload_n 2, 1) := by decide +kernel
theorem gd_Model_trial_18 : decode gb_Model_trial 18 = .ok (.iaload, 1) := by decide +kernel
theorem gd_Model_trial_19 : decode gb_Model_trial 19 = .ok (.i2l, 1) := by decide +kernel
theorem gd_Model_trial_20 : decode gb_Model_trial 20 = .ok (.aload_n 0, 1) := by decide +kernel
theorem gd_Model_trial_21 : decode gb_Model_trial 21 = .ok (.getfield 131, 3) := by decide +kernel
theorem gd_Model_trial_24 : decode gb_Model_trial 24 = .ok (.i2l, 1) := by decide +kernel
theorem gd_Model_trial_25 : decode gb_Model_trial 25 = .ok (.lmul, 1) := by decide +kernel
theorem gd_Model_trial_26 : decode gb_Model_trial 26 = .ok (.lsub, 1) := by decide +kernel
theorem gd_Model_trial_27 : decode gb_Model_trial 27 = .ok (.lstore_n 3, 1) := by decide +kernel
theorem gd_Model_trial_28 : decode gb_Model_trial 28 = .ok (.lload_n 3, 1) := by decide +kernel
theorem gd_Model_trial_29 : decode gb_Model_trial 29 = .ok (.lconst 0, 1) := by decide +kernel
theorem gd_Model_trial_30 : decode gb_Model_trial 30 = .ok (.lcmp, 1) := by decide +kernel
theorem gd_Model_trial_31 : decode gb_Model_trial 31 = .ok (.ifCond .ge 8, 3) := by decide +kernel
theorem gd_Model_trial_34 : decode gb_Model_trial 34 = .ok (.lload_n 3, 1) := by decide +kernel
theorem gd_Model_trial_35 : decode gb_Model_trial 35 = .ok (.lneg, 1) := by decide +kernel
theorem gd_Model_trial_36 : decode gb_Model_trial 36 = .ok (.goto 4, 3) := by decide +kernel
theorem gd_Model_trial_39 : decode gb_Model_trial 39 = .ok (.lload_n 3, 1) := by decide +kernel
theorem gd_Model_trial_40 : decode gb_Model_trial 40 = .ok (.lstore 5, 2) := by decide +kernel
theorem gd_Model_trial_42 : decode gb_Model_trial 42 = .ok (.aload_n 0, 1) := by decide +kernel
theorem gd_Model_trial_43 : decode gb_Model_trial 43 = .ok (.getfield 8, 3) := by decide +kernel
theorem gd_Model_trial_46 : decode gb_Model_trial 46 = .ok (.iload_n 2, 1) := by decide +kernel
theorem gd_Model_trial_47 : decode gb_Model_trial 47 = .ok (.iaload, 1) := by decide +kernel
theorem gd_Model_trial_48 : decode gb_Model_trial 48 = .ok (.i2l, 1) := by decide +kernel
theorem gd_Model_trial_49 : decode gb_Model_trial 49 = .ok (.aload_n 0, 1) := by decide +kernel
theorem gd_Model_trial_50 : decode gb_Model_trial 50 = .ok (.getfield 134, 3) := by decide +kernel
theorem gd_Model_trial_53 : decode gb_Model_trial 53 = .ok (.i2l, 1) := by decide +kernel
theorem gd_Model_trial_54 : decode gb_Model_trial 54 = .ok (.lmul, 1) := by decide +kernel
theorem gd_Model_trial_55 : decode gb_Model_trial 55 = .ok (.lstore 7, 2) := by decide +kernel
theorem gd_Model_trial_57 : decode gb_Model_trial 57 = .ok (.aload_n 0, 1) := by decide +kernel
theorem gd_Model_trial_58 : decode gb_Model_trial 58 = .ok (.getfield 183, 3) := by decide +kernel
theorem gd_Model_trial_61 : decode gb_Model_trial 61 = .ok (.lconst 0, 1) := by decide +kernel
theorem gd_Model_trial_62 : decode gb_Model_trial 62 = .ok (.lcmp, 1) := by decide +kernel
theorem gd_Model_trial_63 : decode gb_Model_trial 63 = .ok (.ifCond .ne 7, 3) := by decide +kernel
theorem gd_Model_trial_66 : decode gb_Model_trial 66 = .ok (.iconst (-1), 1) := by decide +kernel
theorem gd_Model_trial_67 : decode gb_Model_trial 67 = .ok (.goto 18, 3) := by decide +kernel
theorem gd_Model_trial_70 : decode gb_Model_trial 70 = .ok (.lload 5, 2) := by decide +kernel
theorem gd_Model_trial_72 : decode gb_Model_trial 72 = .ok (.lload 7, 2) := by decide +kernel
theorem gd_Model_trial_74 : decode gb_Model_trial 74 = .ok (.aload_n 0, 1) := by decide +kernel
theorem gd_Model_trial_75 : decode gb_Model_trial 75 = .ok (.getfield 187, 3) := by decide +kernel
theorem gd_Model_trial_78 : decode gb_Model_trial 78 = .ok (.aload_n 0, 1) := by decide +kernel
theorem gd_Model_trial_79 : decode gb_Model_trial 79 = .ok (.getfield 183, 3) := by decide +kernel
theorem gd_Model_trial_82 : decode gb_Model_trial 82 = .ok (.invokestatic 190, 3) := by decide +kernel
theorem gd_Model_trial_85 : decode gb_Model_trial 85 = .ok (.istore 9, 2) := by decide +kernel
theorem gd_Model_trial_87 : decode gb_Model_trial 87 = .ok (.aload_n 0, 1) := by decide +kernel
theorem gd_Model_trial_88 : decode gb_Model_trial 88 = .ok (.getfield 17, 3) := by decide +kernel
theorem gd_Model_trial_91 : decode gb_Model_trial 91 = .ok (.iload_n 1, 1) := by decide +kernel
theorem gd_Model_trial_92 : decode gb_Model_trial 92 = .ok (.iaload, 1) := by decide +kernel
theorem gd_Model_trial_93 : decode gb_Model_trial 93 = .ok (.aload_n 0, 1) := by decide +kernel
theorem gd_Model_trial_94 : decode gb_Model_trial 94 = .ok (.getfield 17, 3) := by decide +kernel
theorem gd_Model_trial_97 : decode gb_Model_trial 97 = .ok (.iload_n 2, 1) := by decide +kernel
theorem gd_Model_trial_98 : decode gb_Model_trial 98 = .ok (.iaload, 1) := by decide +kernel
theorem gd_Model_trial_99 : decode gb_Model_trial 99 = .ok (.iadd, 1) := by decide +kernel
theorem gd_Model_trial_100 : decode gb_Model_trial 100 = .ok (.istore 10, 2) := by decide +kernel
theorem gd_Model_trial_102 : decode gb_Model_trial 102 = .ok (.iload 9, 2) := by decide +kernel
theorem gd_Model_trial_104 : decode gb_Model_trial 104 = .ok (.ifCond .lt 45, 3) := by decide +kernel
theorem gd_Model_trial_107 : decode gb_Model_trial 107 = .ok (.iload 9, 2) := by decide +kernel
theorem gd_Model_trial_109 : decode gb_Model_trial 109 = .ok (.ifCond .ne 44, 3) := by decide +kernel
theorem gd_Model_trial_112 : decode gb_Model_trial 112 = .ok (.iload 10, 2) := by decide +kernel
theorem gd_Model_trial_114 : decode gb_Model_trial 114 = .ok (.aload_n 0, 1) := by decide +kernel
theorem gd_Model_trial_115 : decode gb_Model_trial 115 = .ok (.getfield 194, 3) := by decide +kernel
theorem gd_Model_trial_118 : decode gb_Model_trial 118 = .ok (.if_icmp .lt 31, 3) := by decide +kernel
theorem gd_Model_trial_121 : decode gb_Model_trial 121 = .ok (.iload 10, 2) := by decide +kernel
theorem gd_Model_trial_123 : decode gb_Model_trial 123 = .ok (.aload_n 0, 1) := by decide +kernel
theorem gd_Model_trial_124 : decode gb_Model_trial 124 = .ok (.getfield 194, 3) := by decide +kernel
theorem gd_Model_trial_127 : decode gb_Model_trial 127 = .ok (.if_icmp .ne 26, 3) := by decide +kernel
theorem gd_Model_trial_130 : decode gb_Model_trial 130 = .ok (.aload_n 0, 1) := by decide +kernel
theorem gd_Model_trial_131 : decode gb_Model_trial 131 = .ok (.aload_n 0, 1) := by decide +kernel
theorem gd_Model_trial_132 : decode gb_Model_trial 132 = .ok (.getfield 14, 3) := by decide +kernel
theorem gd_Model_trial_135 : decode gb_Model_trial 135 = .ok (.iload_n 1, 1) := by decide +kernel
theorem gd_Model_trial_136 : decode gb_Model_trial 136 = .ok (.iaload, 1) := by decide +kernel
theorem gd_Model_trial_137 : decode gb_Model_trial 137 = .ok (.aload_n 0, 1) := by decide +kernel
theorem gd_Model_trial_138 : decode gb_Model_trial 138 = .ok (.getfield 14, 3) := by decide +kernel
theorem gd_Model_trial_141 : decode gb_Model_trial 141 = .ok (.iload_n 2, 1) := by decide +kernel
theorem gd_Model_trial_142 : decode gb_Model_trial 142 = .ok (.iaload, 1) := by decide +kernel
theorem gd_Model_trial_143 : decode gb_Model_trial 143 = .ok (.invokevirtual 197, 3) := by decide +kernel
theorem gd_Model_trial_146 : decode gb_Model_trial 146 = .ok (.ifCond .eq 7, 3) := by decide +kernel
theorem gd_Model_trial_149 : decode gb_Model_trial 149 = .ok (.iconst 1, 1) := by decide +kernel
theorem gd_Model_trial_150 : decode gb_Model_trial 150 = .ok (.goto 4, 3) := by decide +kernel
theorem gd_Model_trial_153 : decode gb_Model_trial 153 = .ok (.iconst 0, 1) := by decide +kernel
theorem gd_Model_trial_154 : decode gb_Model_trial 154 = .ok (.istore 11, 2) := by decide +kernel
theorem gd_Model_trial_156 : decode gb_Model_trial 156 = .ok (.iload 11, 2) := by decide +kernel
theorem gd_Model_trial_158 : decode gb_Model_trial 158 = .ok (.ifCond .eq 41, 3) := by decide +kernel
theorem gd_Model_trial_161 : decode gb_Model_trial 161 = .ok (.aload_n 0, 1) := by decide +kernel
theorem gd_Model_trial_162 : decode gb_Model_trial 162 = .ok (.lload 5, 2) := by decide +kernel
theorem gd_Model_trial_164 : decode gb_Model_trial 164 = .ok (.putfield 187, 3) := by decide +kernel
theorem gd_Model_trial_167 : decode gb_Model_trial 167 = .ok (.aload_n 0, 1) := by decide +kernel
theorem gd_Model_trial_168 : decode gb_Model_trial 168 = .ok (.lload 7, 2) := by decide +kernel
theorem gd_Model_trial_170 : decode gb_Model_trial 170 = .ok (.putfield 183, 3) := by decide +kernel
theorem gd_Model_trial_173 : decode gb_Model_trial 173 = .ok (.aload_n 0, 1) := by decide +kernel
theorem gd_Model_trial_174 : decode gb_Model_trial 174 = .ok (.iload 10, 2) := by decide +kernel
theorem gd_Model_trial_176 : decode gb_Model_trial 176 = .ok (.putfield 194, 3) := by decide +kernel
theorem gd_Model_trial_179 : decode gb_Model_trial 179 = .ok (.aload_n 0, 1) := by decide +kernel
theorem gd_Model_trial_180 : decode gb_Model_trial 180 = .ok (.aload_n 0, 1) := by decide +kernel
theorem gd_Model_trial_181 : decode gb_Model_trial 181 = .ok (.getfield 14, 3) := by decide +kernel
theorem gd_Model_trial_184 : decode gb_Model_trial 184 = .ok (.iload_n 1, 1) := by decide +kernel
theorem gd_Model_trial_185 : decode gb_Model_trial 185 = .ok (.iaload, 1) := by decide +kernel
theorem gd_Model_trial_186 : decode gb_Model_trial 186 = .ok (.putfield 177, 3) := by decide +kernel
theorem gd_Model_trial_189 : decode gb_Model_trial 189 = .ok (.aload_n 0, 1) := by decide +kernel
theorem gd_Model_trial_190 : decode gb_Model_trial 190 = .ok (.aload_n 0, 1) := by decide +kernel
theorem gd_Model_trial_191 : decode gb_Model_trial 191 = .ok (.getfield 14, 3) := by decide +kernel
theorem gd_Model_trial_194 : decode gb_Model_trial 194 = .ok (.iload_n 2, 1) := by decide +kernel
theorem gd_Model_trial_195 : decode gb_Model_trial 195 = .ok (.iaload, 1) := by decide +kernel
theorem gd_Model_trial_196 : decode gb_Model_trial 196 = .ok (.putfield 180, 3) := by decide +kernel
theorem gd_Model_trial_199 : decode gb_Model_trial 199 = .ok (.return_, 1) := by decide +kernel
def gf_Model_trial_b199 (F : Nat) (z : gw_Sh)  (u : gw_St)  : Option gw_St :=
  some u
def gf_Model_trial_b154 (F : Nat) (z : gw_Sh)  (u : gw_St) (t0 : Nat) (x1 : Int32) (x2 : Int32) (y5 : Int64) (y7 : Int64) (x10 : Int32) (sx0 : Int32) : Option gw_St :=
  if sx0 = 0 then (gf_Model_trial_b199 F z  u ) else (gf_nm (gw_wl u t0 13 y5) fun u2 => gf_nm (gw_wl u2 t0 14 y7) fun u4 => gf_nm (gw_wi u4 t0 15 x10) fun u6 => gf_nn (u6.2.2 t0 11) fun q8 => if (x1 < 0 ∨ z.2.2 q8 ≤ (x1).toNatClampNeg) then none else gf_nm (gw_wi u6 t0 16 (u6.1 q8 (x1).toNatClampNeg)) fun u11 => gf_nn (u11.2.2 t0 11) fun q13 => if (x2 < 0 ∨ z.2.2 q13 ≤ (x2).toNatClampNeg) then none else gf_nm (gw_wi u11 t0 17 (u11.1 q13 (x2).toNatClampNeg)) fun u16 => gf_Model_trial_b199 F z  u16 )
def gf_Model_trial_b149 (F : Nat) (z : gw_Sh)  (u : gw_St) (t0 : Nat) (x1 : Int32) (x2 : Int32) (y5 : Int64) (y7 : Int64) (x10 : Int32) : Option gw_St :=
  gf_Model_trial_b154 F z  u t0 x1 x2 y5 y7 x10 1
def gf_Model_trial_b153 (F : Nat) (z : gw_Sh)  (u : gw_St) (t0 : Nat) (x1 : Int32) (x2 : Int32) (y5 : Int64) (y7 : Int64) (x10 : Int32) : Option gw_St :=
  gf_Model_trial_b154 F z  u t0 x1 x2 y5 y7 x10 0
def gf_Model_trial_b85 (F : Nat) (z : gw_Sh)  (u : gw_St) (t0 : Nat) (x1 : Int32) (x2 : Int32) (y5 : Int64) (y7 : Int64) (sx0 : Int32) : Option gw_St :=
  gf_nn (u.2.2 t0 12) fun q18 => if (x1 < 0 ∨ z.2.2 q18 ≤ (x1).toNatClampNeg) then none else gf_nn (u.2.2 t0 12) fun q21 => if (x2 < 0 ∨ z.2.2 q21 ≤ (x2).toNatClampNeg) then none else gf_nm ((u.1 q18 (x1).toNatClampNeg) + (u.1 q21 (x2).toNatClampNeg)) fun a24 => if sx0 < 0 then (gf_Model_trial_b149 F z  u t0 x1 x2 y5 y7 a24) else (if sx0 = 0 then (if a24 < (u.1 t0 15) then (gf_Model_trial_b149 F z  u t0 x1 x2 y5 y7 a24) else (if a24 = (u.1 t0 15) then (gf_nn (u.2.2 t0 11) fun q30 => if (x1 < 0 ∨ z.2.2 q30 ≤ (x1).toNatClampNeg) then none else gf_nn (u.2.2 t0 11) fun q33 => if (x2 < 0 ∨ z.2.2 q33 ≤ (x2).toNatClampNeg) then none else gf_cl (gf_Model_isLessList F z u t0 (u.1 q30 (x1).toNatClampNeg) (u.1 q33 (x2).toNatClampNeg)) fun a38 u36 => if a38 = 0 then (gf_Model_trial_b153 F z  u36 t0 x1 x2 y5 y7 a24) else (gf_Model_trial_b149 F z  u36 t0 x1 x2 y5 y7 a24)) else (gf_Model_trial_b153 F z  u t0 x1 x2 y5 y7 a24))) else (gf_Model_trial_b153 F z  u t0 x1 x2 y5 y7 a24))
def gf_Model_trial_b40 (F : Nat) (z : gw_Sh)  (u : gw_St) (t0 : Nat) (x1 : Int32) (x2 : Int32) (sy0 : Int64) : Option gw_St :=
  gf_nn (u.2.2 t0 10) fun q40 => if (x2 < 0 ∨ z.2.2 q40 ≤ (x2).toNatClampNeg) then none else gf_nm ((((u.1 q40 (x2).toNatClampNeg)).toInt64) * (((u.1 t0 3)).toInt64)) fun a43 => if (lg_cmp (u.2.1 t0 14) (0 : Int64)) = 0 then (gf_Model_trial_b85 F z  u t0 x1 x2 sy0 a43 (-1)) else (gf_cl (gf_Model_compare F z u sy0 a43 (u.2.1 t0 13) (u.2.1 t0 14)) fun a48 u46 => gf_Model_trial_b85 F z  u46 t0 x1 x2 sy0 a43 a48)
def gf_Model_trial_b0 (F : Nat) (z : gw_Sh)  (u : gw_St) (t0 : Nat) (x1 : Int32) (x2 : Int32) : Option gw_St :=
  gf_nn (u.2.2 t0 10) fun q49 => if (x1 < 0 ∨ z.2.2 q49 ≤ (x1).toNatClampNeg) then none else gf_nn (u.2.2 t0 10) fun q52 => if (x2 < 0 ∨ z.2.2 q52 ≤ (x2).toNatClampNeg) then none else gf_nm (((((u.1 q49 (x1).toNatClampNeg)).toInt64) * (((u.1 t0 3)).toInt64)) - ((((u.1 q52 (x2).toNatClampNeg)).toInt64) * (((u.1 t0 2)).toInt64))) fun a55 => if 0 ≤ (lg_cmp a55 (0 : Int64)) then (gf_Model_trial_b40 F z  u t0 x1 x2 a55) else (gf_Model_trial_b40 F z  u t0 x1 x2 (-a55))
def gf_Model_trial (F : Nat) (z : gw_Sh) (u : gw_St) (t0 : Nat) (x1 : Int32) (x2 : Int32) : Option gw_St := gf_Model_trial_b0 F z  u t0 x1 x2
set_option maxHeartbeats 4000000 in
set_option maxRecDepth 20000 in
theorem gx_Model_trial_b199 {p : Program} {l : Launch} {e : Env} {s : State} {m : MethodId} {args : Array Value} {below : List Frame} {meth : Method} {c : Code} {D : va_G} {cA : Nat → ClassId} {hs : Nat → Nat} {z : gw_Sh} (F : Nat) {r0 : gw_St} (C : gw_Cx p s m args c gb_Model_trial 12 R_Model D cA) (hr : meth.sig.returnType = none) (hk : meth.locks = false) (u : gw_St)   {H : Heap} {locs : List Loc} {ls : Array Slot} (hW : gw_Wx D cA hs z s u H locs) (hl : lv_has ls 12 []) (h : gf_Model_trial_b199 F z   u  = some r0) : gw_Gv p l e gr_Model_trial s m args below meth c D cA hs z r0 H locs ls 199 [] := by
  obtain ⟨hx, hb, hml, hown, hts, hK⟩ := id C
  unfold gf_Model_trial_b199 at h
  obtain rfl := Option.some.inj h
  exact gw_vret C hW hr hk gd_Model_trial_199

set_option maxHeartbeats 4000000 in
set_option maxRecDepth 20000 in
theorem gx_Model_trial_b154 {p : Program} {l : Launch} {e : Env} {s : State} {m : MethodId} {args : Array Value} {below : List Frame} {meth : Method} {c : Code} {D : va_G} {cA : Nat → ClassId} {hs : Nat → Nat} {z : gw_Sh} (F : Nat) {r0 : gw_St} (C : gw_Cx p s m args c gb_Model_trial 12 R_Model D cA) (hr : meth.sig.returnType = none) (hk : meth.locks = false) (u : gw_St) (t0 : Nat) (x1 : Int32) (x2 : Int32) (y5 : Int64) (y7 : Int64) (x10 : Int32) (sx0 : Int32) (o_t0 : gw_ok z t0 9) {H : Heap} {locs : List Loc} {ls : Array Slot} (hW : gw_Wx D cA hs z s u H locs) (hl : lv_has ls 12 [(0, .ref (hs t0)), (1, .int x1), (2, .int x2), (5, .long y5), (7, .long y7), (10, .int x10)]) (h : gf_Model_trial_b154 F z   u t0 x1 x2 y5 y7 x10 sx0 = some r0) : gw_Gv p l e gr_Model_trial s m args below meth c D cA hs z r0 H locs ls 154 [.int sx0] := by
  obtain ⟨hx, hb, hml, hown, hts, hK⟩ := id C
  unfold gf_Model_trial_b154 at h
  refine lv_istore (lv' := [(11, .int sx0), (0, .ref (hs t0)), (1, .int x1), (2, .int x2), (5, .long y5), (7, .long y7), (10, .int x10)]) hx hb gd_Model_trial_154 hl (by decide) rfl (fun ls hl => ?_)
  refine lv_iload hx hb gd_Model_trial_156 (lv_at hl 0 rfl) ?_
  refine lv_if_eq (tgt := 199) hx hb gd_Model_trial_158 (by decide) (fun c1 => ?_) (fun c1 => ?_)
  · have h := gf_t c1 h
    exact gx_Model_trial_b199 F C hr hk  u   hW (lv_sub hl [] rfl) h
  · have h := gf_f c1 h
    refine lv_aload_n hx hb gd_Model_trial_161 rfl (lv_at hl 1 rfl) ?_
    refine lv_lload hx hb gd_Model_trial_162 (lv_at hl 4 rfl) ?_
    refine gw_putl (k := 13) (ref := R_Model) C hW o_t0 (by decide) rfl gi_Model rfl (by decide) rfl rfl gk_432 tf_Model tf_Model_ok nm_Model rfl rfl gd_Model_trial_164 (fun u2 H locs e3 hW => ?_)
    have h := gf_nm_ok e3 h
    refine lv_aload_n hx hb gd_Model_trial_167 rfl (lv_at hl 1 rfl) ?_
    refine lv_lload hx hb gd_Model_trial_168 (lv_at hl 5 rfl) ?_
    refine gw_putl (k := 14) (ref := R_Model) C hW o_t0 (by decide) rfl gi_Model rfl (by decide) rfl rfl gk_433 tf_Model tf_Model_ok nm_Model rfl rfl gd_Model_trial_170 (fun u4 H locs e5 hW => ?_)
    have h := gf_nm_ok e5 h
    refine lv_aload_n hx hb gd_Model_trial_173 rfl (lv_at hl 1 rfl) ?_
    refine lv_iload hx hb gd_Model_trial_174 (lv_at hl 6 rfl) ?_
    refine gw_puti (k := 15) (ref := R_Model) (fty := .int) C hW o_t0 (by decide) rfl gi_Model rfl (by decide) rfl rfl gk_434 tf_Model tf_Model_ok nm_Model rfl rfl rfl rfl gd_Model_trial_176 (fun u6 H locs e7 hW => ?_)
    have h := gf_nm_ok e7 h
    refine lv_aload_n hx hb gd_Model_trial_179 rfl (lv_at hl 1 rfl) ?_
    refine lv_aload_n hx hb gd_Model_trial_180 rfl (lv_at hl 1 rfl) ?_
    obtain ⟨q8, e9, h⟩ := gf_nn_ok h
    refine gw_getr (k := 11) (ty := 10) (ref := R_Model) C hW o_t0 (by decide) rfl gi_Model rfl (by decide) rfl rfl gk_410 gd_Model_trial_181 e9 ?_
    have o_q8 := hW.ref (d := 10) o_t0 e9 rfl
    refine lv_iload_n hx hb gd_Model_trial_184 rfl (lv_at hl 2 rfl) ?_
    obtain ⟨g10, h⟩ := gf_if_ok h
    refine gw_iald C hW o_q8 g10 gd_Model_trial_185 ?_
    refine gw_puti (k := 16) (ref := R_Model) (fty := .int) C hW o_t0 (by decide) rfl gi_Model rfl (by decide) rfl rfl gk_429 tf_Model tf_Model_ok nm_Model rfl rfl rfl rfl gd_Model_trial_186 (fun u11 H locs e12 hW => ?_)
    have h := gf_nm_ok e12 h
    refine lv_aload_n hx hb gd_Model_trial_189 rfl (lv_at hl 1 rfl) ?_
    refine lv_aload_n hx hb gd_Model_trial_190 rfl (lv_at hl 1 rfl) ?_
    obtain ⟨q13, e14, h⟩ := gf_nn_ok h
    refine gw_getr (k := 11) (ty := 10) (ref := R_Model) C hW o_t0 (by decide) rfl gi_Model rfl (by decide) rfl rfl gk_410 gd_Model_trial_191 e14 ?_
    have o_q13 := hW.ref (d := 10) o_t0 e14 rfl
    refine lv_iload_n hx hb gd_Model_trial_194 rfl (lv_at hl 3 rfl) ?_
    obtain ⟨g15, h⟩ := gf_if_ok h
    refine gw_iald C hW o_q13 g15 gd_Model_trial_195 ?_
    refine gw_puti (k := 17) (ref := R_Model) (fty := .int) C hW o_t0 (by decide) rfl gi_Model rfl (by decide) rfl rfl gk_430 tf_Model tf_Model_ok nm_Model rfl rfl rfl rfl gd_Model_trial_196 (fun u16 H locs e17 hW => ?_)
    have h := gf_nm_ok e17 h
    exact gx_Model_trial_b199 F C hr hk  u16   hW (lv_sub hl [] rfl) h

set_option maxHeartbeats 4000000 in
set_option maxRecDepth 20000 in
theorem gx_Model_trial_b149 {p : Program} {l : Launch} {e : Env} {s : State} {m : MethodId} {args : Array Value} {below : List Frame} {meth : Method} {c : Code} {D : va_G} {cA : Nat → ClassId} {hs : Nat → Nat} {z : gw_Sh} (F : Nat) {r0 : gw_St} (C : gw_Cx p s m args c gb_Model_trial 12 R_Model D cA) (hr : meth.sig.returnType = none) (hk : meth.locks = false) (u : gw_St) (t0 : Nat) (x1 : Int32) (x2 : Int32) (y5 : Int64) (y7 : Int64) (x10 : Int32) (o_t0 : gw_ok z t0 9) {H : Heap} {locs : List Loc} {ls : Array Slot} (hW : gw_Wx D cA hs z s u H locs) (hl : lv_has ls 12 [(0, .ref (hs t0)), (1, .int x1), (2, .int x2), (5, .long y5), (7, .long y7), (10, .int x10)]) (h : gf_Model_trial_b149 F z   u t0 x1 x2 y5 y7 x10 = some r0) : gw_Gv p l e gr_Model_trial s m args below meth c D cA hs z r0 H locs ls 149 [] := by
  obtain ⟨hx, hb, hml, hown, hts, hK⟩ := id C
  unfold gf_Model_trial_b149 at h
  refine lv_iconst (v := 1) hx hb gd_Model_trial_149 (by decide) ?_
  refine lv_goto (tgt := 154) hx hb gd_Model_trial_150 (by decide) ?_
  exact gx_Model_trial_b154 F C hr hk  u t0 x1 x2 y5 y7 x10 1 o_t0 hW (lv_sub hl [0, 1, 2, 3, 4, 5] rfl) h

set_option maxHeartbeats 4000000 in
set_option maxRecDepth 20000 in
theorem gx_Model_trial_b153 {p : Program} {l : Launch} {e : Env} {s : State} {m : MethodId} {args : Array Value} {below : List Frame} {meth : Method} {c : Code} {D : va_G} {cA : Nat → ClassId} {hs : Nat → Nat} {z : gw_Sh} (F : Nat) {r0 : gw_St} (C : gw_Cx p s m args c gb_Model_trial 12 R_Model D cA) (hr : meth.sig.returnType = none) (hk : meth.locks = false) (u : gw_St) (t0 : Nat) (x1 : Int32) (x2 : Int32) (y5 : Int64) (y7 : Int64) (x10 : Int32) (o_t0 : gw_ok z t0 9) {H : Heap} {locs : List Loc} {ls : Array Slot} (hW : gw_Wx D cA hs z s u H locs) (hl : lv_has ls 12 [(0, .ref (hs t0)), (1, .int x1), (2, .int x2), (5, .long y5), (7, .long y7), (10, .int x10)]) (h : gf_Model_trial_b153 F z   u t0 x1 x2 y5 y7 x10 = some r0) : gw_Gv p l e gr_Model_trial s m args below meth c D cA hs z r0 H locs ls 153 [] := by
  obtain ⟨hx, hb, hml, hown, hts, hK⟩ := id C
  unfold gf_Model_trial_b153 at h
  refine lv_iconst (v := 0) hx hb gd_Model_trial_153 (by decide) ?_
  exact gx_Model_trial_b154 F C hr hk  u t0 x1 x2 y5 y7 x10 0 o_t0 hW (lv_sub hl [0, 1, 2, 3, 4, 5] rfl) h

set_option maxHeartbeats 4000000 in
set_option maxRecDepth 20000 in
theorem gx_Model_trial_b85 {p : Program} {l : Launch} {e : Env} {s : State} {m : MethodId} {args : Array Value} {below : List Frame} {meth : Method} {c : Code} {D : va_G} {cA : Nat → ClassId} {hs : Nat → Nat} {z : gw_Sh} (F : Nat) {r0 : gw_St} (C : gw_Cx p s m args c gb_Model_trial 12 R_Model D cA) (hr : meth.sig.returnType = none) (hk : meth.locks = false) (u : gw_St) (t0 : Nat) (x1 : Int32) (x2 : Int32) (y5 : Int64) (y7 : Int64) (sx0 : Int32) (o_t0 : gw_ok z t0 9) {H : Heap} {locs : List Loc} {ls : Array Slot} (hW : gw_Wx D cA hs z s u H locs) (hl : lv_has ls 12 [(0, .ref (hs t0)), (1, .int x1), (2, .int x2), (5, .long y5), (7, .long y7)]) (h : gf_Model_trial_b85 F z   u t0 x1 x2 y5 y7 sx0 = some r0) : gw_Gv p l e gr_Model_trial s m args below meth c D cA hs z r0 H locs ls 85 [.int sx0] := by
  obtain ⟨hx, hb, hml, hown, hts, hK⟩ := id C
  unfold gf_Model_trial_b85 at h
  refine lv_istore (lv' := [(9, .int sx0), (0, .ref (hs t0)), (1, .int x1), (2, .int x2), (5, .long y5), (7, .long y7)]) hx hb gd_Model_trial_85 hl (by decide) rfl (fun ls hl => ?_)
  refine lv_aload_n hx hb gd_Model_trial_87 rfl (lv_at hl 1 rfl) ?_
  obtain ⟨q18, e19, h⟩ := gf_nn_ok h
  refine gw_getr (k := 12) (ty := 10) (ref := R_Model) C hW o_t0 (by decide) rfl gi_Model rfl (by decide) rfl rfl gk_409 gd_Model_trial_88 e19 ?_
  have o_q18 := hW.ref (d := 10) o_t0 e19 rfl
  refine lv_iload_n hx hb gd_Model_trial_91 rfl (lv_at hl 2 rfl) ?_
  obtain ⟨g20, h⟩ := gf_if_ok h
  refine gw_iald C hW o_q18 g20 gd_Model_trial_92 ?_
  refine lv_aload_n hx hb gd_Model_trial_93 rfl (lv_at hl 1 rfl) ?_
  obtain ⟨q21, e22, h⟩ := gf_nn_ok h
  refine gw_getr (k := 12) (ty := 10) (ref := R_Model) C hW o_t0 (by decide) rfl gi_Model rfl (by decide) rfl rfl gk_409 gd_Model_trial_94 e22 ?_
  have o_q21 := hW.ref (d := 10) o_t0 e22 rfl
  refine lv_iload_n hx hb gd_Model_trial_97 rfl (lv_at hl 3 rfl) ?_
  obtain ⟨g23, h⟩ := gf_if_ok h
  refine gw_iald C hW o_q21 g23 gd_Model_trial_98 ?_
  refine lv_iadd hx hb gd_Model_trial_99 ?_
  refine lv_topi (fun a24 e25 => ?_)
  have h := gf_nm_ok e25 h
  refine lv_istore (lv' := [(10, .int a24), (9, .int sx0), (0, .ref (hs t0)), (1, .int x1), (2, .int x2), (5, .long y5), (7, .long y7)]) hx hb gd_Model_trial_100 hl (by decide) rfl (fun ls hl => ?_)
  refine lv_iload hx hb gd_Model_trial_102 (lv_at hl 1 rfl) ?_
  refine lv_if_lt (tgt := 149) hx hb gd_Model_trial_104 (by decide) (fun c26 => ?_) (fun c26 => ?_)
  · have h := gf_t c26 h
    exact gx_Model_trial_b149 F C hr hk  u t0 x1 x2 y5 y7 a24 o_t0 hW (lv_sub hl [2, 3, 4, 5, 6, 0] rfl) h
  · have h := gf_f c26 h
    refine lv_iload hx hb gd_Model_trial_107 (lv_at hl 1 rfl) ?_
    refine lv_if_ne (tgt := 153) hx hb gd_Model_trial_109 (by decide) (fun c27 => ?_) (fun c27 => ?_)
    · have h := gf_f c27 h
      exact gx_Model_trial_b153 F C hr hk  u t0 x1 x2 y5 y7 a24 o_t0 hW (lv_sub hl [2, 3, 4, 5, 6, 0] rfl) h
    · have h := gf_t c27 h
      refine lv_iload hx hb gd_Model_trial_112 (lv_at hl 0 rfl) ?_
      refine lv_aload_n hx hb gd_Model_trial_114 rfl (lv_at hl 2 rfl) ?_
      refine gw_geti (k := 15) (ref := R_Model) C hW o_t0 (by decide) rfl gi_Model rfl (by decide) rfl rfl gk_434 gd_Model_trial_115 ?_
      refine lv_icmp_lt (tgt := 149) hx hb gd_Model_trial_118 (by decide) (fun c28 => ?_) (fun c28 => ?_)
      · have h := gf_t c28 h
        exact gx_Model_trial_b149 F C hr hk  u t0 x1 x2 y5 y7 a24 o_t0 hW (lv_sub hl [2, 3, 4, 5, 6, 0] rfl) h
      · have h := gf_f c28 h
        refine lv_iload hx hb gd_Model_trial_121 (lv_at hl 0 rfl) ?_
        refine lv_aload_n hx hb gd_Model_trial_123 rfl (lv_at hl 2 rfl) ?_
        refine gw_geti (k := 15) (ref := R_Model) C hW o_t0 (by decide) rfl gi_Model rfl (by decide) rfl rfl gk_434 gd_Model_trial_124 ?_
        refine lv_icmp_ne (tgt := 153) hx hb gd_Model_trial_127 (by decide) (fun c29 => ?_) (fun c29 => ?_)
        · have h := gf_f c29 h
          exact gx_Model_trial_b153 F C hr hk  u t0 x1 x2 y5 y7 a24 o_t0 hW (lv_sub hl [2, 3, 4, 5, 6, 0] rfl) h
        · have h := gf_t c29 h
          refine lv_aload_n hx hb gd_Model_trial_130 rfl (lv_at hl 2 rfl) ?_
          refine lv_aload_n hx hb gd_Model_trial_131 rfl (lv_at hl 2 rfl) ?_
          obtain ⟨q30, e31, h⟩ := gf_nn_ok h
          refine gw_getr (k := 11) (ty := 10) (ref := R_Model) C hW o_t0 (by decide) rfl gi_Model rfl (by decide) rfl rfl gk_410 gd_Model_trial_132 e31 ?_
          have o_q30 := hW.ref (d := 10) o_t0 e31 rfl
          refine lv_iload_n hx hb gd_Model_trial_135 rfl (lv_at hl 3 rfl) ?_
          obtain ⟨g32, h⟩ := gf_if_ok h
          refine gw_iald C hW o_q30 g32 gd_Model_trial_136 ?_
          refine lv_aload_n hx hb gd_Model_trial_137 rfl (lv_at hl 2 rfl) ?_
          obtain ⟨q33, e34, h⟩ := gf_nn_ok h
          refine gw_getr (k := 11) (ty := 10) (ref := R_Model) C hW o_t0 (by decide) rfl gi_Model rfl (by decide) rfl rfl gk_410 gd_Model_trial_138 e34 ?_
          have o_q33 := hW.ref (d := 10) o_t0 e34 rfl
          refine lv_iload_n hx hb gd_Model_trial_141 rfl (lv_at hl 4 rfl) ?_
          obtain ⟨g35, h⟩ := gf_if_ok h
          refine gw_iald C hW o_q33 g35 gd_Model_trial_142 ?_
          obtain ⟨a38, u36, d37, h⟩ := gf_cl_ok h
          refine gw_callVi (K := R_Model) (As := [.int (u.1 q30 (x1).toNatClampNeg), .int (u.1 q33 (x2).toNatClampNeg)]) (rest := []) C hW (fun _ h => Or.inr h) hl.1 gm_Model_isLessList (gc_Model_isLessList l F o_t0 d37 _) gk_435 gk_436 gk_437 o_t0 (by decide) rfl rfl rfl ⟨Nat.le_of_ble_eq_true rfl, Nat.le_of_ble_eq_true rfl⟩ ⟨Nat.zero_le _, Nat.zero_le _⟩ rfl rfl (Nat.le_of_ble_eq_true rfl) gd_Model_trial_143 (fun H locs hW => ?_)
          refine lv_if_eq (tgt := 153) hx hb gd_Model_trial_146 (by decide) (fun c39 => ?_) (fun c39 => ?_)
          · have h := gf_t c39 h
            exact gx_Model_trial_b153 F C hr hk  u36 t0 x1 x2 y5 y7 a24 o_t0 hW (lv_sub hl [2, 3, 4, 5, 6, 0] rfl) h
          · have h := gf_f c39 h
            exact gx_Model_trial_b149 F C hr hk  u36 t0 x1 x2 y5 y7 a24 o_t0 hW (lv_sub hl [2, 3, 4, 5, 6, 0] rfl) h

set_option maxHeartbeats 4000000 in
set_option maxRecDepth 20000 in
theorem gx_Model_trial_b40 {p : Program} {l : Launch} {e : Env} {s : State} {m : MethodId} {args : Array Value} {below : List Frame} {meth : Method} {c : Code} {D : va_G} {cA : Nat → ClassId} {hs : Nat → Nat} {z : gw_Sh} (F : Nat) {r0 : gw_St} (C : gw_Cx p s m args c gb_Model_trial 12 R_Model D cA) (hr : meth.sig.returnType = none) (hk : meth.locks = false) (u : gw_St) (t0 : Nat) (x1 : Int32) (x2 : Int32) (sy0 : Int64) (o_t0 : gw_ok z t0 9) {H : Heap} {locs : List Loc} {ls : Array Slot} (hW : gw_Wx D cA hs z s u H locs) (hl : lv_has ls 12 [(0, .ref (hs t0)), (1, .int x1), (2, .int x2)]) (h : gf_Model_trial_b40 F z   u t0 x1 x2 sy0 = some r0) : gw_Gv p l e gr_Model_trial s m args below meth c D cA hs z r0 H locs ls 40 [.long sy0] := by
  obtain ⟨hx, hb, hml, hown, hts, hK⟩ := id C
  unfold gf_Model_trial_b40 at h
  refine lv_lstore (lv' := [(5, .long sy0), (0, .ref (hs t0)), (1, .int x1), (2, .int x2)]) hx hb gd_Model_trial_40 hl (by decide) rfl (fun ls hl => ?_)
  refine lv_aload_n hx hb gd_Model_trial_42 rfl (lv_at hl 1 rfl) ?_
  obtain ⟨q40, e41, h⟩ := gf_nn_ok h
  refine gw_getr (k := 10) (ty := 10) (ref := R_Model) C hW o_t0 (by decide) rfl gi_Model rfl (by decide) rfl rfl gk_408 gd_Model_trial_43 e41 ?_
  have o_q40 := hW.ref (d := 10) o_t0 e41 rfl
  refine lv_iload_n hx hb gd_Model_trial_46 rfl (lv_at hl 3 rfl) ?_
  obtain ⟨g42, h⟩ := gf_if_ok h
  refine gw_iald C hW o_q40 g42 gd_Model_trial_47 ?_
  refine lv_i2l hx hb gd_Model_trial_48 rfl ?_
  refine lv_aload_n hx hb gd_Model_trial_49 rfl (lv_at hl 1 rfl) ?_
  refine gw_geti (k := 3) (ref := R_Model) C hW o_t0 (by decide) rfl gi_Model rfl (by decide) rfl rfl gk_390 gd_Model_trial_50 ?_
  refine lv_i2l hx hb gd_Model_trial_53 rfl ?_
  refine lv_lmul hx hb gd_Model_trial_54 ?_
  refine lv_topl (fun a43 e44 => ?_)
  have h := gf_nm_ok e44 h
  refine lv_lstore (lv' := [(7, .long a43), (5, .long sy0), (0, .ref (hs t0)), (1, .int x1), (2, .int x2)]) hx hb gd_Model_trial_55 hl (by decide) rfl (fun ls hl => ?_)
  refine lv_aload_n hx hb gd_Model_trial_57 rfl (lv_at hl 2 rfl) ?_
  refine gw_getl (k := 14) (ref := R_Model) C hW o_t0 (by decide) rfl gi_Model rfl (by decide) rfl rfl gk_433 gd_Model_trial_58 ?_
  refine lv_lconst (v := 0) hx hb gd_Model_trial_61 (by decide) ?_
  refine W.lcmp hx hb gd_Model_trial_62 ?_
  refine lv_if_ne (tgt := 70) hx hb gd_Model_trial_63 (by decide) (fun c45 => ?_) (fun c45 => ?_)
  · have h := gf_f c45 h
    refine lv_lload hx hb gd_Model_trial_70 (lv_at hl 1 rfl) ?_
    refine lv_lload hx hb gd_Model_trial_72 (lv_at hl 0 rfl) ?_
    refine lv_aload_n hx hb gd_Model_trial_74 rfl (lv_at hl 2 rfl) ?_
    refine gw_getl (k := 13) (ref := R_Model) C hW o_t0 (by decide) rfl gi_Model rfl (by decide) rfl rfl gk_432 gd_Model_trial_75 ?_
    refine lv_aload_n hx hb gd_Model_trial_78 rfl (lv_at hl 2 rfl) ?_
    refine gw_getl (k := 14) (ref := R_Model) C hW o_t0 (by decide) rfl gi_Model rfl (by decide) rfl rfl gk_433 gd_Model_trial_79 ?_
    obtain ⟨a48, u46, d47, h⟩ := gf_cl_ok h
    refine gw_callSi (As := [.long sy0, .long a43, .long (u.2.1 t0 13), .long (u.2.1 t0 14)]) (rest := []) C hW (fun _ h => Or.inr h) hl.1 gm_Model_compare (gc_Model_compare l F  d47 _) gk_438 gk_439 rfl rfl ⟨Nat.le_of_ble_eq_true rfl, Nat.le_of_ble_eq_true rfl⟩ ⟨Nat.zero_le _, Nat.zero_le _⟩ rfl rfl (Nat.le_of_ble_eq_true rfl) gd_Model_trial_82 (fun H locs hW => ?_)
    exact gx_Model_trial_b85 F C hr hk  u46 t0 x1 x2 sy0 a43 a48 o_t0 hW (lv_sub hl [2, 3, 4, 1, 0] rfl) h
  · have h := gf_t c45 h
    refine lv_iconst (v := (-1)) hx hb gd_Model_trial_66 (by decide) ?_
    refine lv_goto (tgt := 85) hx hb gd_Model_trial_67 (by decide) ?_
    exact gx_Model_trial_b85 F C hr hk  u t0 x1 x2 sy0 a43 (-1) o_t0 hW (lv_sub hl [2, 3, 4, 1, 0] rfl) h

set_option maxHeartbeats 4000000 in
set_option maxRecDepth 20000 in
theorem gx_Model_trial_b0 {p : Program} {l : Launch} {e : Env} {s : State} {m : MethodId} {args : Array Value} {below : List Frame} {meth : Method} {c : Code} {D : va_G} {cA : Nat → ClassId} {hs : Nat → Nat} {z : gw_Sh} (F : Nat) {r0 : gw_St} (C : gw_Cx p s m args c gb_Model_trial 12 R_Model D cA) (hr : meth.sig.returnType = none) (hk : meth.locks = false) (u : gw_St) (t0 : Nat) (x1 : Int32) (x2 : Int32) (o_t0 : gw_ok z t0 9) {H : Heap} {locs : List Loc} {ls : Array Slot} (hW : gw_Wx D cA hs z s u H locs) (hl : lv_has ls 12 [(0, .ref (hs t0)), (1, .int x1), (2, .int x2)]) (h : gf_Model_trial_b0 F z   u t0 x1 x2 = some r0) : gw_Gv p l e gr_Model_trial s m args below meth c D cA hs z r0 H locs ls 0 [] := by
  obtain ⟨hx, hb, hml, hown, hts, hK⟩ := id C
  unfold gf_Model_trial_b0 at h
  refine lv_aload_n hx hb gd_Model_trial_0 rfl (lv_at hl 0 rfl) ?_
  obtain ⟨q49, e50, h⟩ := gf_nn_ok h
  refine gw_getr (k := 10) (ty := 10) (ref := R_Model) C hW o_t0 (by decide) rfl gi_Model rfl (by decide) rfl rfl gk_408 gd_Model_trial_1 e50 ?_
  have o_q49 := hW.ref (d := 10) o_t0 e50 rfl
  refine lv_iload_n hx hb gd_Model_trial_4 rfl (lv_at hl 1 rfl) ?_
  obtain ⟨g51, h⟩ := gf_if_ok h
  refine gw_iald C hW o_q49 g51 gd_Model_trial_5 ?_
  refine lv_i2l hx hb gd_Model_trial_6 rfl ?_
  refine lv_aload_n hx hb gd_Model_trial_7 rfl (lv_at hl 0 rfl) ?_
  refine gw_geti (k := 3) (ref := R_Model) C hW o_t0 (by decide) rfl gi_Model rfl (by decide) rfl rfl gk_390 gd_Model_trial_8 ?_
  refine lv_i2l hx hb gd_Model_trial_11 rfl ?_
  refine lv_lmul hx hb gd_Model_trial_12 ?_
  refine lv_aload_n hx hb gd_Model_trial_13 rfl (lv_at hl 0 rfl) ?_
  obtain ⟨q52, e53, h⟩ := gf_nn_ok h
  refine gw_getr (k := 10) (ty := 10) (ref := R_Model) C hW o_t0 (by decide) rfl gi_Model rfl (by decide) rfl rfl gk_408 gd_Model_trial_14 e53 ?_
  have o_q52 := hW.ref (d := 10) o_t0 e53 rfl
  refine lv_iload_n hx hb gd_Model_trial_17 rfl (lv_at hl 2 rfl) ?_
  obtain ⟨g54, h⟩ := gf_if_ok h
  refine gw_iald C hW o_q52 g54 gd_Model_trial_18 ?_
  refine lv_i2l hx hb gd_Model_trial_19 rfl ?_
  refine lv_aload_n hx hb gd_Model_trial_20 rfl (lv_at hl 0 rfl) ?_
  refine gw_geti (k := 2) (ref := R_Model) C hW o_t0 (by decide) rfl gi_Model rfl (by decide) rfl rfl gk_389 gd_Model_trial_21 ?_
  refine lv_i2l hx hb gd_Model_trial_24 rfl ?_
  refine lv_lmul hx hb gd_Model_trial_25 ?_
  refine lv_lsub hx hb gd_Model_trial_26 ?_
  refine lv_topl (fun a55 e56 => ?_)
  have h := gf_nm_ok e56 h
  refine lv_lstore_n (lv' := [(3, .long a55), (0, .ref (hs t0)), (1, .int x1), (2, .int x2)]) hx hb gd_Model_trial_27 rfl hl (by decide) rfl (fun ls hl => ?_)
  refine lv_lload_n hx hb gd_Model_trial_28 rfl (lv_at hl 0 rfl) ?_
  refine lv_lconst (v := 0) hx hb gd_Model_trial_29 (by decide) ?_
  refine W.lcmp hx hb gd_Model_trial_30 ?_
  refine lv_if_ge (tgt := 39) hx hb gd_Model_trial_31 (by decide) (fun c57 => ?_) (fun c57 => ?_)
  · have h := gf_t c57 h
    refine lv_lload_n hx hb gd_Model_trial_39 rfl (lv_at hl 0 rfl) ?_
    exact gx_Model_trial_b40 F C hr hk  u t0 x1 x2 a55 o_t0 hW (lv_sub hl [1, 2, 3] rfl) h
  · have h := gf_f c57 h
    refine lv_lload_n hx hb gd_Model_trial_34 rfl (lv_at hl 0 rfl) ?_
    refine lv_lneg hx hb gd_Model_trial_35 ?_
    refine lv_goto (tgt := 40) hx hb gd_Model_trial_36 (by decide) ?_
    exact gx_Model_trial_b40 F C hr hk  u t0 x1 x2 (-a55) o_t0 hW (lv_sub hl [1, 2, 3] rfl) h

set_option maxRecDepth 20000 in
theorem gc_Model_trial (l : Launch) {D : va_G} {cA : Nat → ClassId} {hs : Nat → Nat} {z : gw_Sh} (F : Nat) {u : gw_St} {r0 : gw_St} {t0 : Nat} {x1 : Int32} {x2 : Int32} (o_t0 : gw_ok z t0 9) (h : gf_Model_trial F z u t0 x1 x2 = some r0) (sz : Nat) : gw_Mv l gy_Model_trial gb_Model_trial 12 none gr_Model_trial [.ref (hs t0), .int x1, .int x2] D cA hs z u sz r0 := by
  refine gw_enter (by decide) (Nat.le_of_ble_eq_true rfl) ?_
  intro p e s m below meth c ls hsz C hW hr hk _ hl
  subst hsz
  exact gx_Model_trial_b0 F C hr hk u t0 x1 x2 o_t0 hW (lv_sub hl [0, 1, 2] rfl) h
-- GearDeskModel.findTrain()V
theorem gk_441 : Cond.methodLink R_Model 203 gy_Model_trial ∈ gt_T := gt_m7 (List.mem_of_getElem? (i := 19) rfl) rfl
theorem gk_442 : Cond.instanceMethod gy_Model_trial ∈ gt_T := gt_m7 (List.mem_of_getElem? (i := 21) rfl) rfl
theorem gk_443 : Cond.selects R_Model gy_Model_trial gy_Model_trial ∈ gt_T := gt_p3 (List.mem_of_getElem? (i := 9) rfl) rfl
theorem gk_444 : Cond.methodLink R_Model 200 gy_Model_listChoices ∈ gt_T := gt_m6 (List.mem_of_getElem? (i := 235) rfl) rfl
theorem gk_445 : Cond.instanceMethod gy_Model_listChoices ∈ gt_T := gt_m6 (List.mem_of_getElem? (i := 237) rfl) rfl
theorem gk_446 : Cond.selects R_Model gy_Model_listChoices gy_Model_listChoices ∈ gt_T := gt_p3 (List.mem_of_getElem? (i := 3) rfl) rfl
def gy_Model_findTrain : MethodName := ⟨R_Model, "findTrain", "()V"⟩
abbrev gb_Model_findTrain : ByteArray := prog_11_method_18_code
theorem gk_447 : Cond.code gy_Model_findTrain gb_Model_findTrain 7 none ∈ gt_T := gt_m6 (List.mem_of_getElem? (i := 234) rfl) rfl
def gr_Model_findTrain : Room := gw_rm 4 141
theorem gm_Model_findTrain : gw_Mth gy_Model_findTrain gb_Model_findTrain 7 none 0 := ⟨gk_447, gk_377, ⟨by decide +kernel, by decide +kernel⟩, by decide +kernel⟩
theorem gd_Model_findTrain_0 : decode gb_Model_findTrain 0 = .ok (.aload_n 0, 1) := by decide +kernel
theorem gd_Model_findTrain_1 : decode gb_Model_findTrain 1 = .ok (.getfield 153, 3) := by decide +kernel
theorem gd_Model_findTrain_4 : decode gb_Model_findTrain 4 = .ok (.ifCond .eq 4, 3) := by decide +kernel
theorem gd_Model_findTrain_7 : decode gb_Model_findTrain 7 = .ok (.return_, 1) := by decide +kernel
theorem gd_Model_findTrain_8 : decode gb_Model_findTrain 8 = .ok (.aload_n 0, 1) := by decide +kernel
theorem gd_Model_findTrain_9 : decode gb_Model_findTrain 9 = .ok (.iconst 1, 1) := by decide +kernel
theorem gd_Model_findTrain_10 : decode gb_Model_findTrain 10 = .ok (.putfield 153, 3) := by decide +kernel
theorem gd_Model_findTrain_13 : decode gb_Model_findTrain 13 = .ok (.aload_n 0, 1) := by decide +kernel
theorem gd_Model_findTrain_14 : decode gb_Model_findTrain 14 = .ok (.invokevirtual 200, 3) := by decide +kernel
theorem gd_Model_findTrain_17 : decode gb_Model_findTrain 17 = .ok (.aload_n 0, 1) := by decide +kernel
theorem gd_Model_findTrain_18 : decode gb_Model_findTrain 18 = .ok (.lconst 0, 1) := by decide +kernel
theorem gd_Model_findTrain_19 : decode gb_Model_findTrain 19 = .ok (.putfield 183, 3) := by decide +kernel
theorem gd_Model_findTrain_22 : decode gb_Model_findTrain 22 = .ok (.iconst 0, 1) := by decide +kernel
theorem gd_Model_findTrain_23 : decode gb_Model_findTrain 23 = .ok (.istore_n 1, 1) := by decide +kernel
theorem gd_Model_findTrain_24 : decode gb_Model_findTrain 24 = .ok (.iload_n 1, 1) := by decide +kernel
theorem gd_Model_findTrain_25 : decode gb_Model_findTrain 25 = .ok (.aload_n 0, 1) := by decide +kernel
theorem gd_Model_findTrain_26 : decode gb_Model_findTrain 26 = .ok (.getfield 168, 3) := by decide +kernel
theorem gd_Model_findTrain_29 : decode gb_Model_findTrain 29 = .ok (.if_icmp .ge 113, 3) := by decide +kernel
theorem gd_Model_findTrain_32 : decode gb_Model_findTrain 32 = .ok (.aload_n 0, 1) := by decide +kernel
theorem gd_Model_findTrain_33 : decode gb_Model_findTrain 33 = .ok (.getfield 8, 3) := by decide +kernel
theorem gd_Model_findTrain_36 : decode gb_Model_findTrain 36 = .ok (.iload_n 1, 1) := by decide +kernel
theorem gd_Model_findTrain_37 : decode gb_Model_findTrain 37 = .ok (.iaload, 1) := by decide +kernel
theorem gd_Model_findTrain_38 : decode gb_Model_findTrain 38 = .ok (.i2l, 1) := by decide +kernel
theorem gd_Model_findTrain_39 : decode gb_Model_findTrain 39 = .ok (.aload_n 0, 1) := by decide +kernel
theorem gd_Model_findTrain_40 : decode gb_Model_findTrain 40 = .ok (.getfield 134, 3) := by decide +kernel
theorem gd_Model_findTrain_43 : decode gb_Model_findTrain 43 = .ok (.i2l, 1) := by decide +kernel
theorem gd_Model_findTrain_44 : decode gb_Model_findTrain 44 = .ok (.lmul, 1) := by decide +kernel
theorem gd_Model_findTrain_45 : decode gb_Model_findTrain 45 = .ok (.lstore_n 2, 1) := by decide +kernel
theorem gd_Model_findTrain_46 : decode gb_Model_findTrain 46 = .ok (.iconst 0, 1) := by decide +kernel
theorem gd_Model_findTrain_47 : decode gb_Model_findTrain 47 = .ok (.istore 4, 2) := by decide +kernel
theorem gd_Model_findTrain_49 : decode gb_Model_findTrain 49 = .ok (.aload_n 0, 1) := by decide +kernel
theorem gd_Model_findTrain_50 : decode gb_Model_findTrain 50 = .ok (.getfield 168, 3) := by decide +kernel
theorem gd_Model_findTrain_53 : decode gb_Model_findTrain 53 = .ok (.istore 5, 2) := by decide +kernel
theorem gd_Model_findTrain_55 : decode gb_Model_findTrain 55 = .ok (.iload 4, 2) := by decide +kernel
theorem gd_Model_findTrain_57 : decode gb_Model_findTrain 57 = .ok (.iload 5, 2) := by decide +kernel
theorem gd_Model_findTrain_59 : decode gb_Model_findTrain 59 = .ok (.if_icmp .ge 47, 3) := by decide +kernel
theorem gd_Model_findTrain_62 : decode gb_Model_findTrain 62 = .ok (.iload 4, 2) := by decide +kernel
theorem gd_Model_findTrain_64 : decode gb_Model_findTrain 64 = .ok (.iload 5, 2) := by decide +kernel
theorem gd_Model_findTrain_66 : decode gb_Model_findTrain 66 = .ok (.iadd, 1) := by decide +kernel
theorem gd_Model_findTrain_67 : decode gb_Model_findTrain 67 = .ok (.iconst 2, 1) := by decide +kernel
theorem gd_Model_findTrain_68 : decode gb_Model_findTrain 68 = .ok (.idiv, 1) := by decide +kernel
theorem gd_Model_findTrain_69 : decode gb_Model_findTrain 69 = .ok (.istore 6, 2) := by decide +kernel
theorem gd_Model_findTrain_71 : decode gb_Model_findTrain 71 = .ok (.aload_n 0, 1) := by decide +kernel
theorem gd_Model_findTrain_72 : decode gb_Model_findTrain 72 = .ok (.getfield 8, 3) := by decide +kernel
theorem gd_Model_findTrain_75 : decode gb_Model_findTrain 75 = .ok (.iload 6, 2) := by decide +kernel
theorem gd_Model_findTrain_77 : decode gb_Model_findTrain 77 = .ok (.iaload, 1) := by decide +kernel
theorem gd_Model_findTrain_78 : decode gb_Model_findTrain 78 = .ok (.i2l, 1) := by decide +kernel
theorem gd_Model_findTrain_79 : decode gb_Model_findTrain 79 = .ok (.aload_n 0, 1) := by decide +kernel
theorem gd_Model_findTrain_80 : decode gb_Model_findTrain 80 = .ok (.getfield 131, 3) := by decide +kernel
theorem gd_Model_findTrain_83 : decode gb_Model_findTrain 83 = .ok (.i2l, 1) := by decide +kernel
theorem gd_Model_findTrain_84 : decode gb_Model_findTrain 84 = .ok (.lmul, 1) := by decide +kernel
theorem gd_Model_findTrain_85 : decode gb_Model_findTrain 85 = .ok (.lload_n 2, 1) := by decide +kernel
theorem gd_Model_findTrain_86 : decode gb_Model_findTrain 86 = .ok (.lcmp, 1) := by decide +kernel
theorem gd_Model_findTrain_87 : decode gb_Model_findTrain 87 = .ok (.ifCond .ge 12, 3) := by decide +kernel
theorem gd_Model_findTrain_90 : decode gb_Model_findTrain 90 = .ok (.iload 6, 2) := by decide +kernel
theorem gd_Model_findTrain_92 : decode gb_Model_findTrain 92 = .ok (.iconst 1, 1) := by decide +kernel
theorem gd_Model_findTrain_93 : decode gb_Model_findTrain 93 = .ok (.iadd, 1) := by decide +kernel
theorem gd_Model_findTrain_94 : decode gb_Model_findTrain 94 = .ok (.istore 4, 2) := by decide +kernel
theorem gd_Model_findTrain_96 : decode gb_Model_findTrain 96 = .ok (.goto 7, 3) := by decide +kernel
theorem gd_Model_findTrain_99 : decode gb_Model_findTrain 99 = .ok (.iload 6, 2) := by decide +kernel
theorem gd_Model_findTrain_101 : decode gb_Model_findTrain 101 = .ok (.istore 5, 2) := by decide +kernel
theorem gd_Model_findTrain_103 : decode gb_Model_findTrain 103 = .ok (.goto (-48), 3) := by decide +kernel
theorem gd_Model_findTrain_106 : decode gb_Model_findTrain 106 = .ok (.iload 4, 2) := by decide +kernel
theorem gd_Model_findTrain_108 : decode gb_Model_findTrain 108 = .ok (.aload_n 0, 1) := by decide +kernel
theorem gd_Model_findTrain_109 : decode gb_Model_findTrain 109 = .ok (.getfield 168, 3) := by decide +kernel
theorem gd_Model_findTrain_112 : decode gb_Model_findTrain 112 = .ok (.if_icmp .ge 10, 3) := by decide +kernel
theorem gd_Model_findTrain_115 : decode gb_Model_findTrain 115 = .ok (.aload_n 0, 1) := by decide +kernel
theorem gd_Model_findTrain_116 : decode gb_Model_findTrain 116 = .ok (.iload_n 1, 1) := by decide +kernel
theorem gd_Model_findTrain_117 : decode gb_Model_findTrain 117 = .ok (.iload 4, 2) := by decide +kernel
theorem gd_Model_findTrain_119 : decode gb_Model_findTrain 119 = .ok (.invokevirtual 203, 3) := by decide +kernel
theorem gd_Model_findTrain_122 : decode gb_Model_findTrain 122 = .ok (.iload 4, 2) := by decide +kernel
theorem gd_Model_findTrain_124 : decode gb_Model_findTrain 124 = .ok (.ifCond .le 12, 3) := by decide +kernel
theorem gd_Model_findTrain_127 : decode gb_Model_findTrain 127 = .ok (.aload_n 0, 1) := by decide +kernel
theorem gd_Model_findTrain_128 : decode gb_Model_findTrain 128 = .ok (.iload_n 1, 1) := by decide +kernel
theorem gd_Model_findTrain_129 : decode gb_Model_findTrain 129 = .ok (.iload 4, 2) := by decide +kernel
theorem gd_Model_findTrain_131 : decode gb_Model_findTrain 131 = .ok (.iconst 1, 1) := by decide +kernel
theorem gd_Model_findTrain_132 : decode gb_Model_findTrain 132 = .ok (.isub, 1) := by decide +kernel
theorem gd_Model_findTrain_133 : decode gb_Model_findTrain 133 = .ok (.invokevirtual 203, 3) := by decide +kernel
theorem gd_Model_findTrain_136 : decode gb_Model_findTrain 136 = .ok (.iinc 1 1, 3) := by decide +kernel
theorem gd_Model_findTrain_139 : decode gb_Model_findTrain 139 = .ok (.goto (-115), 3) := by decide +kernel
theorem gd_Model_findTrain_142 : decode gb_Model_findTrain 142 = .ok (.return_, 1) := by decide +kernel
def gf_Model_findTrain_b103 (F : Nat) (z : gw_Sh) (rc_24 : gw_St → Nat → Int32 → Option gw_St) (rc_55 : gw_St → Nat → Int32 → Int64 → Int32 → Int32 → Option gw_St) (u : gw_St) (t0 : Nat) (x1 : Int32) (y2 : Int64) (x4 : Int32) (x5 : Int32) : Option gw_St :=
  rc_55 u t0 x1 y2 x4 x5
def gf_Model_findTrain_b136 (F : Nat) (z : gw_Sh) (rc_24 : gw_St → Nat → Int32 → Option gw_St) (u : gw_St) (t0 : Nat) (x1 : Int32) : Option gw_St :=
  gf_nm (x1 + 1) fun a1 => rc_24 u t0 a1
def gf_Model_findTrain_b122 (F : Nat) (z : gw_Sh) (rc_24 : gw_St → Nat → Int32 → Option gw_St) (u : gw_St) (t0 : Nat) (x1 : Int32) (x4 : Int32) : Option gw_St :=
  if x4 ≤ 0 then (gf_Model_findTrain_b136 F z rc_24 u t0 x1) else ((gf_Model_trial F z u t0 x1 (x4 - (1 : Int32))).bind fun u4 => gf_Model_findTrain_b136 F z rc_24 u4 t0 x1)
def gf_Model_findTrain_S55 (F : Nat) (z : gw_Sh) (rc_24 : gw_St → Nat → Int32 → Option gw_St) (rc_55 : gw_St → Nat → Int32 → Int64 → Int32 → Int32 → Option gw_St) (u : gw_St) (t0 : Nat) (x1 : Int32) (y2 : Int64) (x4 : Int32) (x5 : Int32) : Option gw_St :=
  if x5 ≤ x4 then (if (u.1 t0 9) ≤ x4 then (gf_Model_findTrain_b122 F z rc_24 u t0 x1 x4) else ((gf_Model_trial F z u t0 x1 x4).bind fun u8 => gf_Model_findTrain_b122 F z rc_24 u8 t0 x1 x4)) else (if (2 : Int32) = 0 then none else gf_nm ((x4 + x5) / (2 : Int32)) fun a11 => gf_nn (u.2.2 t0 10) fun q13 => if (a11 < 0 ∨ z.2.2 q13 ≤ (a11).toNatClampNeg) then none else if 0 ≤ (lg_cmp ((((u.1 q13 (a11).toNatClampNeg)).toInt64) * (((u.1 t0 2)).toInt64)) y2) then (gf_Model_findTrain_b103 F z rc_24 rc_55 u t0 x1 y2 x4 a11) else (gf_nm (a11 + (1 : Int32)) fun a17 => gf_Model_findTrain_b103 F z rc_24 rc_55 u t0 x1 y2 a17 x5))
def gf_Model_findTrain_L55 (F : Nat) (z : gw_Sh) (rc_24 : gw_St → Nat → Int32 → Option gw_St) : Nat → gw_St → Nat → Int32 → Int64 → Int32 → Int32 → Option gw_St
  | 0 => fun _ _ _ _ _ _ => none
  | n + 1 => fun u t0 x1 y2 x4 x5 => gf_Model_findTrain_S55 F z rc_24 (gf_Model_findTrain_L55 F z rc_24 n) u t0 x1 y2 x4 x5
def gf_Model_findTrain_S24 (F : Nat) (z : gw_Sh)  (rc_24 : gw_St → Nat → Int32 → Option gw_St) (u : gw_St) (t0 : Nat) (x1 : Int32) : Option gw_St :=
  if (u.1 t0 9) ≤ x1 then (some u) else (gf_nn (u.2.2 t0 10) fun q20 => if (x1 < 0 ∨ z.2.2 q20 ≤ (x1).toNatClampNeg) then none else gf_nm ((((u.1 q20 (x1).toNatClampNeg)).toInt64) * (((u.1 t0 3)).toInt64)) fun a23 => gf_nm (u.1 t0 9) fun a25 => gf_Model_findTrain_L55 F z rc_24 F u t0 x1 a23 0 a25)
def gf_Model_findTrain_L24 (F : Nat) (z : gw_Sh)  : Nat → gw_St → Nat → Int32 → Option gw_St
  | 0 => fun _ _ _ => none
  | n + 1 => fun u t0 x1 => gf_Model_findTrain_S24 F z  (gf_Model_findTrain_L24 F z  n) u t0 x1
def gf_Model_findTrain_b0 (F : Nat) (z : gw_Sh)  (u : gw_St) (t0 : Nat) : Option gw_St :=
  if (u.1 t0 8) = 0 then (gf_nm (gw_wi u t0 8 (1 : Int32)) fun u28 => (gf_Model_listChoices F z u28 t0).bind fun u30 => gf_nm (gw_wl u30 t0 14 (0 : Int64)) fun u32 => gf_Model_findTrain_L24 F z  F u32 t0 0) else (some u)
def gf_Model_findTrain (F : Nat) (z : gw_Sh) (u : gw_St) (t0 : Nat) : Option gw_St := gf_Model_findTrain_b0 F z  u t0
set_option maxHeartbeats 4000000 in
set_option maxRecDepth 20000 in
theorem gx_Model_findTrain_b103 {p : Program} {l : Launch} {e : Env} {s : State} {m : MethodId} {args : Array Value} {below : List Frame} {meth : Method} {c : Code} {D : va_G} {cA : Nat → ClassId} {hs : Nat → Nat} {z : gw_Sh} (F : Nat) {r0 : gw_St} (C : gw_Cx p s m args c gb_Model_findTrain 7 R_Model D cA) (hr : meth.sig.returnType = none) (hk : meth.locks = false) {rc_24 : gw_St → Nat → Int32 → Option gw_St} (k_24 : ∀ (u : gw_St) (t0 : Nat) (x1 : Int32) (H : Heap) (locs : List Loc) (ls : Array Slot), gw_ok z t0 9 → gw_Wx D cA hs z s u H locs → lv_has ls 7 [(0, .ref (hs t0)), (1, .int x1)] → rc_24 u t0 x1 = some r0 → gw_Gv p l e gr_Model_findTrain s m args below meth c D cA hs z r0 H locs ls 24 []) {rc_55 : gw_St → Nat → Int32 → Int64 → Int32 → Int32 → Option gw_St} (k_55 : ∀ (u : gw_St) (t0 : Nat) (x1 : Int32) (y2 : Int64) (x4 : Int32) (x5 : Int32) (H : Heap) (locs : List Loc) (ls : Array Slot), gw_ok z t0 9 → gw_Wx D cA hs z s u H locs → lv_has ls 7 [(0, .ref (hs t0)), (1, .int x1), (2, .long y2), (4, .int x4), (5, .int x5)] → rc_55 u t0 x1 y2 x4 x5 = some r0 → gw_Gv p l e gr_Model_findTrain s m args below meth c D cA hs z r0 H locs ls 55 []) (u : gw_St) (t0 : Nat) (x1 : Int32) (y2 : Int64) (x4 : Int32) (x5 : Int32) (o_t0 : gw_ok z t0 9) {H : Heap} {locs : List Loc} {ls : Array Slot} (hW : gw_Wx D cA hs z s u H locs) (hl : lv_has ls 7 [(0, .ref (hs t0)), (1, .int x1), (2, .long y2), (4, .int x4), (5, .int x5)]) (h : gf_Model_findTrain_b103 F z rc_24 rc_55  u t0 x1 y2 x4 x5 = some r0) : gw_Gv p l e gr_Model_findTrain s m args below meth c D cA hs z r0 H locs ls 103 [] := by
  obtain ⟨hx, hb, hml, hown, hts, hK⟩ := id C
  unfold gf_Model_findTrain_b103 at h
  refine lv_goto (tgt := 55) hx hb gd_Model_findTrain_103 (by decide) ?_
  exact k_55 u t0 x1 y2 x4 x5 _ _ _ o_t0 hW (lv_sub hl [0, 1, 2, 3, 4] rfl) h

set_option maxHeartbeats 4000000 in
set_option maxRecDepth 20000 in
theorem gx_Model_findTrain_b136 {p : Program} {l : Launch} {e : Env} {s : State} {m : MethodId} {args : Array Value} {below : List Frame} {meth : Method} {c : Code} {D : va_G} {cA : Nat → ClassId} {hs : Nat → Nat} {z : gw_Sh} (F : Nat) {r0 : gw_St} (C : gw_Cx p s m args c gb_Model_findTrain 7 R_Model D cA) (hr : meth.sig.returnType = none) (hk : meth.locks = false) {rc_24 : gw_St → Nat → Int32 → Option gw_St} (k_24 : ∀ (u : gw_St) (t0 : Nat) (x1 : Int32) (H : Heap) (locs : List Loc) (ls : Array Slot), gw_ok z t0 9 → gw_Wx D cA hs z s u H locs → lv_has ls 7 [(0, .ref (hs t0)), (1, .int x1)] → rc_24 u t0 x1 = some r0 → gw_Gv p l e gr_Model_findTrain s m args below meth c D cA hs z r0 H locs ls 24 []) (u : gw_St) (t0 : Nat) (x1 : Int32) (o_t0 : gw_ok z t0 9) {H : Heap} {locs : List Loc} {ls : Array Slot} (hW : gw_Wx D cA hs z s u H locs) (hl : lv_has ls 7 [(0, .ref (hs t0)), (1, .int x1)]) (h : gf_Model_findTrain_b136 F z rc_24  u t0 x1 = some r0) : gw_Gv p l e gr_Model_findTrain s m args below meth c D cA hs z r0 H locs ls 136 [] := by
  obtain ⟨hx, hb, hml, hown, hts, hK⟩ := id C
  unfold gf_Model_findTrain_b136 at h
  obtain ⟨a1, e2⟩ : ∃ y : Int32, y = x1 + 1 := ⟨_, rfl⟩
  have h := gf_nm_ok e2 h
  refine lv_iinc (v := a1) (lv' := [(1, .int a1), (0, .ref (hs t0))]) hx hb gd_Model_findTrain_136 hl (k := 1) rfl (by rw [e2]; rfl) (by decide) rfl (fun ls hl => ?_)
  refine lv_goto (tgt := 24) hx hb gd_Model_findTrain_139 (by decide) ?_
  exact k_24 u t0 a1 _ _ _ o_t0 hW (lv_sub hl [1, 0] rfl) h

set_option maxHeartbeats 4000000 in
set_option maxRecDepth 20000 in
theorem gx_Model_findTrain_b122 {p : Program} {l : Launch} {e : Env} {s : State} {m : MethodId} {args : Array Value} {below : List Frame} {meth : Method} {c : Code} {D : va_G} {cA : Nat → ClassId} {hs : Nat → Nat} {z : gw_Sh} (F : Nat) {r0 : gw_St} (C : gw_Cx p s m args c gb_Model_findTrain 7 R_Model D cA) (hr : meth.sig.returnType = none) (hk : meth.locks = false) {rc_24 : gw_St → Nat → Int32 → Option gw_St} (k_24 : ∀ (u : gw_St) (t0 : Nat) (x1 : Int32) (H : Heap) (locs : List Loc) (ls : Array Slot), gw_ok z t0 9 → gw_Wx D cA hs z s u H locs → lv_has ls 7 [(0, .ref (hs t0)), (1, .int x1)] → rc_24 u t0 x1 = some r0 → gw_Gv p l e gr_Model_findTrain s m args below meth c D cA hs z r0 H locs ls 24 []) (u : gw_St) (t0 : Nat) (x1 : Int32) (x4 : Int32) (o_t0 : gw_ok z t0 9) {H : Heap} {locs : List Loc} {ls : Array Slot} (hW : gw_Wx D cA hs z s u H locs) (hl : lv_has ls 7 [(0, .ref (hs t0)), (1, .int x1), (4, .int x4)]) (h : gf_Model_findTrain_b122 F z rc_24  u t0 x1 x4 = some r0) : gw_Gv p l e gr_Model_findTrain s m args below meth c D cA hs z r0 H locs ls 122 [] := by
  obtain ⟨hx, hb, hml, hown, hts, hK⟩ := id C
  unfold gf_Model_findTrain_b122 at h
  refine lv_iload hx hb gd_Model_findTrain_122 (lv_at hl 2 rfl) ?_
  refine lv_if_le (tgt := 136) hx hb gd_Model_findTrain_124 (by decide) (fun c3 => ?_) (fun c3 => ?_)
  · have h := gf_t c3 h
    exact gx_Model_findTrain_b136 F C hr hk k_24 u t0 x1 o_t0 hW (lv_sub hl [0, 1] rfl) h
  · have h := gf_f c3 h
    refine lv_aload_n hx hb gd_Model_findTrain_127 rfl (lv_at hl 0 rfl) ?_
    refine lv_iload_n hx hb gd_Model_findTrain_128 rfl (lv_at hl 1 rfl) ?_
    refine lv_iload hx hb gd_Model_findTrain_129 (lv_at hl 2 rfl) ?_
    refine lv_iconst (v := 1) hx hb gd_Model_findTrain_131 (by decide) ?_
    refine lv_isub hx hb gd_Model_findTrain_132 ?_
    obtain ⟨u4, d5, h⟩ := gf_bd_ok h
    refine gw_callVv (K := R_Model) (As := [.int x1, .int (x4 - (1 : Int32))]) (rest := []) C hW (fun _ h => Or.inr h) hl.1 gm_Model_trial (gc_Model_trial l F o_t0 d5 _) gk_441 gk_442 gk_443 o_t0 (by decide) rfl rfl rfl ⟨Nat.le_of_ble_eq_true rfl, Nat.le_of_ble_eq_true rfl⟩ ⟨Nat.zero_le _, Nat.zero_le _⟩ rfl rfl (Nat.le_of_ble_eq_true rfl) gd_Model_findTrain_133 (fun H locs hW => ?_)
    exact gx_Model_findTrain_b136 F C hr hk k_24 u4 t0 x1 o_t0 hW (lv_sub hl [0, 1] rfl) h

set_option maxHeartbeats 4000000 in
set_option maxRecDepth 20000 in
theorem gx_Model_findTrain_S55 {p : Program} {l : Launch} {e : Env} {s : State} {m : MethodId} {args : Array Value} {below : List Frame} {meth : Method} {c : Code} {D : va_G} {cA : Nat → ClassId} {hs : Nat → Nat} {z : gw_Sh} (F : Nat) {r0 : gw_St} (C : gw_Cx p s m args c gb_Model_findTrain 7 R_Model D cA) (hr : meth.sig.returnType = none) (hk : meth.locks = false) {rc_24 : gw_St → Nat → Int32 → Option gw_St} (k_24 : ∀ (u : gw_St) (t0 : Nat) (x1 : Int32) (H : Heap) (locs : List Loc) (ls : Array Slot), gw_ok z t0 9 → gw_Wx D cA hs z s u H locs → lv_has ls 7 [(0, .ref (hs t0)), (1, .int x1)] → rc_24 u t0 x1 = some r0 → gw_Gv p l e gr_Model_findTrain s m args below meth c D cA hs z r0 H locs ls 24 []) {rc_55 : gw_St → Nat → Int32 → Int64 → Int32 → Int32 → Option gw_St} (k_55 : ∀ (u : gw_St) (t0 : Nat) (x1 : Int32) (y2 : Int64) (x4 : Int32) (x5 : Int32) (H : Heap) (locs : List Loc) (ls : Array Slot), gw_ok z t0 9 → gw_Wx D cA hs z s u H locs → lv_has ls 7 [(0, .ref (hs t0)), (1, .int x1), (2, .long y2), (4, .int x4), (5, .int x5)] → rc_55 u t0 x1 y2 x4 x5 = some r0 → gw_Gv p l e gr_Model_findTrain s m args below meth c D cA hs z r0 H locs ls 55 []) (u : gw_St) (t0 : Nat) (x1 : Int32) (y2 : Int64) (x4 : Int32) (x5 : Int32) (o_t0 : gw_ok z t0 9) {H : Heap} {locs : List Loc} {ls : Array Slot} (hW : gw_Wx D cA hs z s u H locs) (hl : lv_has ls 7 [(0, .ref (hs t0)), (1, .int x1), (2, .long y2), (4, .int x4), (5, .int x5)]) (h : gf_Model_findTrain_S55 F z rc_24 rc_55 u t0 x1 y2 x4 x5 = some r0) : gw_Gv p l e gr_Model_findTrain s m args below meth c D cA hs z r0 H locs ls 55 [] := by
  obtain ⟨hx, hb, hml, hown, hts, hK⟩ := id C
  unfold gf_Model_findTrain_S55 at h
  refine lv_iload hx hb gd_Model_findTrain_55 (lv_at hl 3 rfl) ?_
  refine lv_iload hx hb gd_Model_findTrain_57 (lv_at hl 4 rfl) ?_
  refine lv_icmp_ge (tgt := 106) hx hb gd_Model_findTrain_59 (by decide) (fun c6 => ?_) (fun c6 => ?_)
  · have h := gf_t c6 h
    refine lv_iload hx hb gd_Model_findTrain_106 (lv_at hl 3 rfl) ?_
    refine lv_aload_n hx hb gd_Model_findTrain_108 rfl (lv_at hl 0 rfl) ?_
    refine gw_geti (k := 9) (ref := R_Model) C hW o_t0 (by decide) rfl gi_Model rfl (by decide) rfl rfl gk_420 gd_Model_findTrain_109 ?_
    refine lv_icmp_ge (tgt := 122) hx hb gd_Model_findTrain_112 (by decide) (fun c7 => ?_) (fun c7 => ?_)
    · have h := gf_t c7 h
      exact gx_Model_findTrain_b122 F C hr hk k_24 u t0 x1 x4 o_t0 hW (lv_sub hl [0, 1, 3] rfl) h
    · have h := gf_f c7 h
      refine lv_aload_n hx hb gd_Model_findTrain_115 rfl (lv_at hl 0 rfl) ?_
      refine lv_iload_n hx hb gd_Model_findTrain_116 rfl (lv_at hl 1 rfl) ?_
      refine lv_iload hx hb gd_Model_findTrain_117 (lv_at hl 3 rfl) ?_
      obtain ⟨u8, d9, h⟩ := gf_bd_ok h
      refine gw_callVv (K := R_Model) (As := [.int x1, .int x4]) (rest := []) C hW (fun _ h => Or.inr h) hl.1 gm_Model_trial (gc_Model_trial l F o_t0 d9 _) gk_441 gk_442 gk_443 o_t0 (by decide) rfl rfl rfl ⟨Nat.le_of_ble_eq_true rfl, Nat.le_of_ble_eq_true rfl⟩ ⟨Nat.zero_le _, Nat.zero_le _⟩ rfl rfl (Nat.le_of_ble_eq_true rfl) gd_Model_findTrain_119 (fun H locs hW => ?_)
      exact gx_Model_findTrain_b122 F C hr hk k_24 u8 t0 x1 x4 o_t0 hW (lv_sub hl [0, 1, 3] rfl) h
  · have h := gf_f c6 h
    refine lv_iload hx hb gd_Model_findTrain_62 (lv_at hl 3 rfl) ?_
    refine lv_iload hx hb gd_Model_findTrain_64 (lv_at hl 4 rfl) ?_
    refine lv_iadd hx hb gd_Model_findTrain_66 ?_
    refine lv_iconst (v := 2) hx hb gd_Model_findTrain_67 (by decide) ?_
    obtain ⟨g10, h⟩ := gf_if_ok h
    refine lv_idiv hx hb gd_Model_findTrain_68 g10 ?_
    refine lv_topi (fun a11 e12 => ?_)
    have h := gf_nm_ok e12 h
    refine lv_istore (lv' := [(6, .int a11), (0, .ref (hs t0)), (1, .int x1), (2, .long y2), (4, .int x4), (5, .int x5)]) hx hb gd_Model_findTrain_69 hl (by decide) rfl (fun ls hl => ?_)
    refine lv_aload_n hx hb gd_Model_findTrain_71 rfl (lv_at hl 1 rfl) ?_
    obtain ⟨q13, e14, h⟩ := gf_nn_ok h
    refine gw_getr (k := 10) (ty := 10) (ref := R_Model) C hW o_t0 (by decide) rfl gi_Model rfl (by decide) rfl rfl gk_408 gd_Model_findTrain_72 e14 ?_
    have o_q13 := hW.ref (d := 10) o_t0 e14 rfl
    refine lv_iload hx hb gd_Model_findTrain_75 (lv_at hl 0 rfl) ?_
    obtain ⟨g15, h⟩ := gf_if_ok h
    refine gw_iald C hW o_q13 g15 gd_Model_findTrain_77 ?_
    refine lv_i2l hx hb gd_Model_findTrain_78 rfl ?_
    refine lv_aload_n hx hb gd_Model_findTrain_79 rfl (lv_at hl 1 rfl) ?_
    refine gw_geti (k := 2) (ref := R_Model) C hW o_t0 (by decide) rfl gi_Model rfl (by decide) rfl rfl gk_389 gd_Model_findTrain_80 ?_
    refine lv_i2l hx hb gd_Model_findTrain_83 rfl ?_
    refine lv_lmul hx hb gd_Model_findTrain_84 ?_
    refine lv_lload_n hx hb gd_Model_findTrain_85 rfl (lv_at hl 3 rfl) ?_
    refine W.lcmp hx hb gd_Model_findTrain_86 ?_
    refine lv_if_ge (tgt := 99) hx hb gd_Model_findTrain_87 (by decide) (fun c16 => ?_) (fun c16 => ?_)
    · have h := gf_t c16 h
      refine lv_iload hx hb gd_Model_findTrain_99 (lv_at hl 0 rfl) ?_
      refine lv_istore (lv' := [(5, .int a11), (6, .int a11), (0, .ref (hs t0)), (1, .int x1), (2, .long y2), (4, .int x4)]) hx hb gd_Model_findTrain_101 hl (by decide) rfl (fun ls hl => ?_)
      exact gx_Model_findTrain_b103 F C hr hk k_24 k_55 u t0 x1 y2 x4 a11 o_t0 hW (lv_sub hl [2, 3, 4, 5, 0] rfl) h
    · have h := gf_f c16 h
      refine lv_iload hx hb gd_Model_findTrain_90 (lv_at hl 0 rfl) ?_
      refine lv_iconst (v := 1) hx hb gd_Model_findTrain_92 (by decide) ?_
      refine lv_iadd hx hb gd_Model_findTrain_93 ?_
      refine lv_topi (fun a17 e18 => ?_)
      have h := gf_nm_ok e18 h
      refine lv_istore (lv' := [(4, .int a17), (6, .int a11), (0, .ref (hs t0)), (1, .int x1), (2, .long y2), (5, .int x5)]) hx hb gd_Model_findTrain_94 hl (by decide) rfl (fun ls hl => ?_)
      refine lv_goto (tgt := 103) hx hb gd_Model_findTrain_96 (by decide) ?_
      exact gx_Model_findTrain_b103 F C hr hk k_24 k_55 u t0 x1 y2 a17 x5 o_t0 hW (lv_sub hl [2, 3, 4, 0, 5] rfl) h
set_option maxHeartbeats 4000000 in
set_option maxRecDepth 20000 in
theorem gx_Model_findTrain_L55 {p : Program} {l : Launch} {e : Env} {s : State} {m : MethodId} {args : Array Value} {below : List Frame} {meth : Method} {c : Code} {D : va_G} {cA : Nat → ClassId} {hs : Nat → Nat} {z : gw_Sh} (F : Nat) {r0 : gw_St} (C : gw_Cx p s m args c gb_Model_findTrain 7 R_Model D cA) (hr : meth.sig.returnType = none) (hk : meth.locks = false) {rc_24 : gw_St → Nat → Int32 → Option gw_St} (k_24 : ∀ (u : gw_St) (t0 : Nat) (x1 : Int32) (H : Heap) (locs : List Loc) (ls : Array Slot), gw_ok z t0 9 → gw_Wx D cA hs z s u H locs → lv_has ls 7 [(0, .ref (hs t0)), (1, .int x1)] → rc_24 u t0 x1 = some r0 → gw_Gv p l e gr_Model_findTrain s m args below meth c D cA hs z r0 H locs ls 24 []) : ∀ (n : Nat), ∀ (u : gw_St) (t0 : Nat) (x1 : Int32) (y2 : Int64) (x4 : Int32) (x5 : Int32) (H : Heap) (locs : List Loc) (ls : Array Slot), gw_ok z t0 9 → gw_Wx D cA hs z s u H locs → lv_has ls 7 [(0, .ref (hs t0)), (1, .int x1), (2, .long y2), (4, .int x4), (5, .int x5)] → gf_Model_findTrain_L55 F z rc_24 n u t0 x1 y2 x4 x5 = some r0 → gw_Gv p l e gr_Model_findTrain s m args below meth c D cA hs z r0 H locs ls 55 [] := by
  intro n
  induction n with
  | zero =>
    intro u t0 x1 y2 x4 x5 H locs ls o_t0 hW hl h
    cases h
  | succ n ih =>
    intro u t0 x1 y2 x4 x5 H locs ls o_t0 hW hl h
    exact gx_Model_findTrain_S55 F C hr hk k_24 ih u t0 x1 y2 x4 x5 o_t0 hW hl h

set_option maxHeartbeats 4000000 in
set_option maxRecDepth 20000 in
theorem gx_Model_findTrain_S24 {p : Program} {l : Launch} {e : Env} {s : State} {m : MethodId} {args : Array Value} {below : List Frame} {meth : Method} {c : Code} {D : va_G} {cA : Nat → ClassId} {hs : Nat → Nat} {z : gw_Sh} (F : Nat) {r0 : gw_St} (C : gw_Cx p s m args c gb_Model_findTrain 7 R_Model D cA) (hr : meth.sig.returnType = none) (hk : meth.locks = false) {rc_24 : gw_St → Nat → Int32 → Option gw_St} (k_24 : ∀ (u : gw_St) (t0 : Nat) (x1 : Int32) (H : Heap) (locs : List Loc) (ls : Array Slot), gw_ok z t0 9 → gw_Wx D cA hs z s u H locs → lv_has ls 7 [(0, .ref (hs t0)), (1, .int x1)] → rc_24 u t0 x1 = some r0 → gw_Gv p l e gr_Model_findTrain s m args below meth c D cA hs z r0 H locs ls 24 []) (u : gw_St) (t0 : Nat) (x1 : Int32) (o_t0 : gw_ok z t0 9) {H : Heap} {locs : List Loc} {ls : Array Slot} (hW : gw_Wx D cA hs z s u H locs) (hl : lv_has ls 7 [(0, .ref (hs t0)), (1, .int x1)]) (h : gf_Model_findTrain_S24 F z  rc_24 u t0 x1 = some r0) : gw_Gv p l e gr_Model_findTrain s m args below meth c D cA hs z r0 H locs ls 24 [] := by
  obtain ⟨hx, hb, hml, hown, hts, hK⟩ := id C
  unfold gf_Model_findTrain_S24 at h
  refine lv_iload_n hx hb gd_Model_findTrain_24 rfl (lv_at hl 1 rfl) ?_
  refine lv_aload_n hx hb gd_Model_findTrain_25 rfl (lv_at hl 0 rfl) ?_
  refine gw_geti (k := 9) (ref := R_Model) C hW o_t0 (by decide) rfl gi_Model rfl (by decide) rfl rfl gk_420 gd_Model_findTrain_26 ?_
  refine lv_icmp_ge (tgt := 142) hx hb gd_Model_findTrain_29 (by decide) (fun c19 => ?_) (fun c19 => ?_)
  · have h := gf_t c19 h
    obtain rfl := Option.some.inj h
    exact gw_vret C hW hr hk gd_Model_findTrain_142
  · have h := gf_f c19 h
    refine lv_aload_n hx hb gd_Model_findTrain_32 rfl (lv_at hl 0 rfl) ?_
    obtain ⟨q20, e21, h⟩ := gf_nn_ok h
    refine gw_getr (k := 10) (ty := 10) (ref := R_Model) C hW o_t0 (by decide) rfl gi_Model rfl (by decide) rfl rfl gk_408 gd_Model_findTrain_33 e21 ?_
    have o_q20 := hW.ref (d := 10) o_t0 e21 rfl
    refine lv_iload_n hx hb gd_Model_findTrain_36 rfl (lv_at hl 1 rfl) ?_
    obtain ⟨g22, h⟩ := gf_if_ok h
    refine gw_iald C hW o_q20 g22 gd_Model_findTrain_37 ?_
    refine lv_i2l hx hb gd_Model_findTrain_38 rfl ?_
    refine lv_aload_n hx hb gd_Model_findTrain_39 rfl (lv_at hl 0 rfl) ?_
    refine gw_geti (k := 3) (ref := R_Model) C hW o_t0 (by decide) rfl gi_Model rfl (by decide) rfl rfl gk_390 gd_Model_findTrain_40 ?_
    refine lv_i2l hx hb gd_Model_findTrain_43 rfl ?_
    refine lv_lmul hx hb gd_Model_findTrain_44 ?_
    refine lv_topl (fun a23 e24 => ?_)
    have h := gf_nm_ok e24 h
    refine lv_lstore_n (lv' := [(2, .long a23), (0, .ref (hs t0)), (1, .int x1)]) hx hb gd_Model_findTrain_45 rfl hl (by decide) rfl (fun ls hl => ?_)
    refine lv_iconst (v := 0) hx hb gd_Model_findTrain_46 (by decide) ?_
    refine lv_istore (lv' := [(4, .int 0), (2, .long a23), (0, .ref (hs t0)), (1, .int x1)]) hx hb gd_Model_findTrain_47 hl (by decide) rfl (fun ls hl => ?_)
    refine lv_aload_n hx hb gd_Model_findTrain_49 rfl (lv_at hl 2 rfl) ?_
    refine gw_geti (k := 9) (ref := R_Model) C hW o_t0 (by decide) rfl gi_Model rfl (by decide) rfl rfl gk_420 gd_Model_findTrain_50 ?_
    refine lv_topi (fun a25 e26 => ?_)
    have h := gf_nm_ok e26 h
    refine lv_istore (lv' := [(5, .int a25), (4, .int 0), (2, .long a23), (0, .ref (hs t0)), (1, .int x1)]) hx hb gd_Model_findTrain_53 hl (by decide) rfl (fun ls hl => ?_)
    exact gx_Model_findTrain_L55 F C hr hk k_24 F u t0 x1 a23 0 a25 _ _ _ o_t0 hW (lv_sub hl [3, 4, 2, 1, 0] rfl) h
set_option maxHeartbeats 4000000 in
set_option maxRecDepth 20000 in
theorem gx_Model_findTrain_L24 {p : Program} {l : Launch} {e : Env} {s : State} {m : MethodId} {args : Array Value} {below : List Frame} {meth : Method} {c : Code} {D : va_G} {cA : Nat → ClassId} {hs : Nat → Nat} {z : gw_Sh} (F : Nat) {r0 : gw_St} (C : gw_Cx p s m args c gb_Model_findTrain 7 R_Model D cA) (hr : meth.sig.returnType = none) (hk : meth.locks = false) : ∀ (n : Nat), ∀ (u : gw_St) (t0 : Nat) (x1 : Int32) (H : Heap) (locs : List Loc) (ls : Array Slot), gw_ok z t0 9 → gw_Wx D cA hs z s u H locs → lv_has ls 7 [(0, .ref (hs t0)), (1, .int x1)] → gf_Model_findTrain_L24 F z  n u t0 x1 = some r0 → gw_Gv p l e gr_Model_findTrain s m args below meth c D cA hs z r0 H locs ls 24 [] := by
  intro n
  induction n with
  | zero =>
    intro u t0 x1 H locs ls o_t0 hW hl h
    cases h
  | succ n ih =>
    intro u t0 x1 H locs ls o_t0 hW hl h
    exact gx_Model_findTrain_S24 F C hr hk  ih u t0 x1 o_t0 hW hl h

set_option maxHeartbeats 4000000 in
set_option maxRecDepth 20000 in
theorem gx_Model_findTrain_b0 {p : Program} {l : Launch} {e : Env} {s : State} {m : MethodId} {args : Array Value} {below : List Frame} {meth : Method} {c : Code} {D : va_G} {cA : Nat → ClassId} {hs : Nat → Nat} {z : gw_Sh} (F : Nat) {r0 : gw_St} (C : gw_Cx p s m args c gb_Model_findTrain 7 R_Model D cA) (hr : meth.sig.returnType = none) (hk : meth.locks = false) (u : gw_St) (t0 : Nat) (o_t0 : gw_ok z t0 9) {H : Heap} {locs : List Loc} {ls : Array Slot} (hW : gw_Wx D cA hs z s u H locs) (hl : lv_has ls 7 [(0, .ref (hs t0))]) (h : gf_Model_findTrain_b0 F z   u t0 = some r0) : gw_Gv p l e gr_Model_findTrain s m args below meth c D cA hs z r0 H locs ls 0 [] := by
  obtain ⟨hx, hb, hml, hown, hts, hK⟩ := id C
  unfold gf_Model_findTrain_b0 at h
  refine lv_aload_n hx hb gd_Model_findTrain_0 rfl (lv_at hl 0 rfl) ?_
  refine gw_geti (k := 8) (ref := R_Model) C hW o_t0 (by decide) rfl gi_Model rfl (by decide) rfl rfl gk_397 gd_Model_findTrain_1 ?_
  refine lv_if_eq (tgt := 8) hx hb gd_Model_findTrain_4 (by decide) (fun c27 => ?_) (fun c27 => ?_)
  · have h := gf_t c27 h
    refine lv_aload_n hx hb gd_Model_findTrain_8 rfl (lv_at hl 0 rfl) ?_
    refine lv_iconst (v := 1) hx hb gd_Model_findTrain_9 (by decide) ?_
    refine gw_puti (k := 8) (ref := R_Model) (fty := .boolean) C hW o_t0 (by decide) rfl gi_Model rfl (by decide) rfl rfl gk_397 tf_Model tf_Model_ok nm_Model rfl rfl rfl rfl gd_Model_findTrain_10 (fun u28 H locs e29 hW => ?_)
    have h := gf_nm_ok e29 h
    refine lv_aload_n hx hb gd_Model_findTrain_13 rfl (lv_at hl 0 rfl) ?_
    obtain ⟨u30, d31, h⟩ := gf_bd_ok h
    refine gw_callVv (K := R_Model) (As := []) (rest := []) C hW (fun _ h => Or.inr h) hl.1 gm_Model_listChoices (gc_Model_listChoices l F o_t0 d31 _) gk_444 gk_445 gk_446 o_t0 (by decide) rfl rfl rfl ⟨Nat.le_of_ble_eq_true rfl, Nat.le_of_ble_eq_true rfl⟩ ⟨Nat.zero_le _, Nat.zero_le _⟩ rfl rfl (Nat.le_of_ble_eq_true rfl) gd_Model_findTrain_14 (fun H locs hW => ?_)
    refine lv_aload_n hx hb gd_Model_findTrain_17 rfl (lv_at hl 0 rfl) ?_
    refine lv_lconst (v := 0) hx hb gd_Model_findTrain_18 (by decide) ?_
    refine gw_putl (k := 14) (ref := R_Model) C hW o_t0 (by decide) rfl gi_Model rfl (by decide) rfl rfl gk_433 tf_Model tf_Model_ok nm_Model rfl rfl gd_Model_findTrain_19 (fun u32 H locs e33 hW => ?_)
    have h := gf_nm_ok e33 h
    refine lv_iconst (v := 0) hx hb gd_Model_findTrain_22 (by decide) ?_
    refine lv_istore_n (lv' := [(1, .int 0), (0, .ref (hs t0))]) hx hb gd_Model_findTrain_23 rfl hl (by decide) rfl (fun ls hl => ?_)
    exact gx_Model_findTrain_L24 F C hr hk  F u32 t0 0 _ _ _ o_t0 hW (lv_sub hl [1, 0] rfl) h
  · have h := gf_f c27 h
    obtain rfl := Option.some.inj h
    exact gw_vret C hW hr hk gd_Model_findTrain_7

set_option maxRecDepth 20000 in
theorem gc_Model_findTrain (l : Launch) {D : va_G} {cA : Nat → ClassId} {hs : Nat → Nat} {z : gw_Sh} (F : Nat) {u : gw_St} {r0 : gw_St} {t0 : Nat} (o_t0 : gw_ok z t0 9) (h : gf_Model_findTrain F z u t0 = some r0) (sz : Nat) : gw_Mv l gy_Model_findTrain gb_Model_findTrain 7 none gr_Model_findTrain [.ref (hs t0)] D cA hs z u sz r0 := by
  refine gw_enter (by decide) (Nat.le_of_ble_eq_true rfl) ?_
  intro p e s m below meth c ls hsz C hW hr hk _ hl
  subst hsz
  exact gx_Model_findTrain_b0 F C hr hk u t0 o_t0 hW (lv_sub hl [0] rfl) h
-- GearDeskModel.isOver()Z
def gy_Model_isOver : MethodName := ⟨R_Model, "isOver", "()Z"⟩
abbrev gb_Model_isOver : ByteArray := prog_11_method_19_code
theorem gk_448 : Cond.code gy_Model_isOver gb_Model_isOver 1 (some .boolean) ∈ gt_T := gt_m6 (List.mem_of_getElem? (i := 230) rfl) rfl
def gr_Model_isOver : Room := gw_rm 1 64
theorem gm_Model_isOver : gw_Mth gy_Model_isOver gb_Model_isOver 1 (some .boolean) 0 := ⟨gk_448, gk_377, ⟨by decide +kernel, by decide +kernel⟩, by decide +kernel⟩
theorem gd_Model_isOver_0 : decode gb_Model_isOver 0 = .ok (.aload_n 0, 1) := by decide +kernel
theorem gd_Model_isOver_1 : decode gb_Model_isOver 1 = .ok (.getfield 127, 3) := by decide +kernel
theorem gd_Model_isOver_4 : decode gb_Model_isOver 4 = .ok (.ifCond .eq 14, 3) := by decide +kernel
theorem gd_Model_isOver_7 : decode gb_Model_isOver 7 = .ok (.aload_n 0, 1) := by decide +kernel
theorem gd_Model_isOver_8 : decode gb_Model_isOver 8 = .ok (.getfield 150, 3) := by decide +kernel
theorem gd_Model_isOver_11 : decode gb_Model_isOver 11 = .ok (.ifCond .ne 7, 3) := by decide +kernel
theorem gd_Model_isOver_14 : decode gb_Model_isOver 14 = .ok (.iconst 1, 1) := by decide +kernel
theorem gd_Model_isOver_15 : decode gb_Model_isOver 15 = .ok (.goto 4, 3) := by decide +kernel
theorem gd_Model_isOver_18 : decode gb_Model_isOver 18 = .ok (.iconst 0, 1) := by decide +kernel
theorem gd_Model_isOver_19 : decode gb_Model_isOver 19 = .ok (.ireturn, 1) := by decide +kernel
def gf_Model_isOver_b19 (F : Nat) (z : gw_Sh)  (u : gw_St) (sx0 : Int32) : Option (Int32 × gw_St) :=
  if ¬ (sx0 &&& 1 = sx0) then none else some (sx0, u)
def gf_Model_isOver_b18 (F : Nat) (z : gw_Sh)  (u : gw_St)  : Option (Int32 × gw_St) :=
  gf_Model_isOver_b19 F z  u 0
def gf_Model_isOver_b0 (F : Nat) (z : gw_Sh)  (u : gw_St) (t0 : Nat) : Option (Int32 × gw_St) :=
  if (u.1 t0 1) = 0 then (gf_Model_isOver_b18 F z  u ) else (if (u.1 t0 7) = 0 then (gf_Model_isOver_b19 F z  u 1) else (gf_Model_isOver_b18 F z  u ))
def gf_Model_isOver (F : Nat) (z : gw_Sh) (u : gw_St) (t0 : Nat) : Option (Int32 × gw_St) := gf_Model_isOver_b0 F z  u t0
set_option maxHeartbeats 4000000 in
set_option maxRecDepth 20000 in
theorem gx_Model_isOver_b19 {p : Program} {l : Launch} {e : Env} {s : State} {m : MethodId} {args : Array Value} {below : List Frame} {meth : Method} {c : Code} {D : va_G} {cA : Nat → ClassId} {hs : Nat → Nat} {z : gw_Sh} (F : Nat) {r0 : (Int32 × gw_St)} (C : gw_Cx p s m args c gb_Model_isOver 1 R_Model D cA) (hr : meth.sig.returnType = (some .boolean)) (hk : meth.locks = false) (u : gw_St) (sx0 : Int32)  {H : Heap} {locs : List Loc} {ls : Array Slot} (hW : gw_Wx D cA hs z s u H locs) (hl : lv_has ls 1 []) (h : gf_Model_isOver_b19 F z   u sx0 = some r0) : gw_Gi p l e gr_Model_isOver s m args below meth c D cA hs z r0 H locs ls 19 [.int sx0] := by
  obtain ⟨hx, hb, hml, hown, hts, hK⟩ := id C
  unfold gf_Model_isOver_b19 at h
  obtain ⟨g1, h⟩ := gf_if_ok h
  obtain rfl := Option.some.inj h
  exact gw_zret C hW hr (Decidable.not_not.mp g1) hk gd_Model_isOver_19

set_option maxHeartbeats 4000000 in
set_option maxRecDepth 20000 in
theorem gx_Model_isOver_b18 {p : Program} {l : Launch} {e : Env} {s : State} {m : MethodId} {args : Array Value} {below : List Frame} {meth : Method} {c : Code} {D : va_G} {cA : Nat → ClassId} {hs : Nat → Nat} {z : gw_Sh} (F : Nat) {r0 : (Int32 × gw_St)} (C : gw_Cx p s m args c gb_Model_isOver 1 R_Model D cA) (hr : meth.sig.returnType = (some .boolean)) (hk : meth.locks = false) (u : gw_St)   {H : Heap} {locs : List Loc} {ls : Array Slot} (hW : gw_Wx D cA hs z s u H locs) (hl : lv_has ls 1 []) (h : gf_Model_isOver_b18 F z   u  = some r0) : gw_Gi p l e gr_Model_isOver s m args below meth c D cA hs z r0 H locs ls 18 [] := by
  obtain ⟨hx, hb, hml, hown, hts, hK⟩ := id C
  unfold gf_Model_isOver_b18 at h
  refine lv_iconst (v := 0) hx hb gd_Model_isOver_18 (by decide) ?_
  exact gx_Model_isOver_b19 F C hr hk  u 0  hW (lv_sub hl [] rfl) h

set_option maxHeartbeats 4000000 in
set_option maxRecDepth 20000 in
theorem gx_Model_isOver_b0 {p : Program} {l : Launch} {e : Env} {s : State} {m : MethodId} {args : Array Value} {below : List Frame} {meth : Method} {c : Code} {D : va_G} {cA : Nat → ClassId} {hs : Nat → Nat} {z : gw_Sh} (F : Nat) {r0 : (Int32 × gw_St)} (C : gw_Cx p s m args c gb_Model_isOver 1 R_Model D cA) (hr : meth.sig.returnType = (some .boolean)) (hk : meth.locks = false) (u : gw_St) (t0 : Nat) (o_t0 : gw_ok z t0 9) {H : Heap} {locs : List Loc} {ls : Array Slot} (hW : gw_Wx D cA hs z s u H locs) (hl : lv_has ls 1 [(0, .ref (hs t0))]) (h : gf_Model_isOver_b0 F z   u t0 = some r0) : gw_Gi p l e gr_Model_isOver s m args below meth c D cA hs z r0 H locs ls 0 [] := by
  obtain ⟨hx, hb, hml, hown, hts, hK⟩ := id C
  unfold gf_Model_isOver_b0 at h
  refine lv_aload_n hx hb gd_Model_isOver_0 rfl (lv_at hl 0 rfl) ?_
  refine gw_geti (k := 1) (ref := R_Model) C hW o_t0 (by decide) rfl gi_Model rfl (by decide) rfl rfl gk_388 gd_Model_isOver_1 ?_
  refine lv_if_eq (tgt := 18) hx hb gd_Model_isOver_4 (by decide) (fun c2 => ?_) (fun c2 => ?_)
  · have h := gf_t c2 h
    exact gx_Model_isOver_b18 F C hr hk  u   hW (lv_sub hl [] rfl) h
  · have h := gf_f c2 h
    refine lv_aload_n hx hb gd_Model_isOver_7 rfl (lv_at hl 0 rfl) ?_
    refine gw_geti (k := 7) (ref := R_Model) C hW o_t0 (by decide) rfl gi_Model rfl (by decide) rfl rfl gk_396 gd_Model_isOver_8 ?_
    refine lv_if_ne (tgt := 18) hx hb gd_Model_isOver_11 (by decide) (fun c3 => ?_) (fun c3 => ?_)
    · have h := gf_f c3 h
      exact gx_Model_isOver_b18 F C hr hk  u   hW (lv_sub hl [] rfl) h
    · have h := gf_t c3 h
      refine lv_iconst (v := 1) hx hb gd_Model_isOver_14 (by decide) ?_
      refine lv_goto (tgt := 19) hx hb gd_Model_isOver_15 (by decide) ?_
      exact gx_Model_isOver_b19 F C hr hk  u 1  hW (lv_sub hl [] rfl) h

set_option maxRecDepth 20000 in
theorem gc_Model_isOver (l : Launch) {D : va_G} {cA : Nat → ClassId} {hs : Nat → Nat} {z : gw_Sh} (F : Nat) {u : gw_St} {r0 : (Int32 × gw_St)} {t0 : Nat} (o_t0 : gw_ok z t0 9) (h : gf_Model_isOver F z u t0 = some r0) (sz : Nat) : gw_Mi l gy_Model_isOver gb_Model_isOver 1 (some .boolean) gr_Model_isOver [.ref (hs t0)] D cA hs z u sz r0 := by
  refine gw_enter (by decide) (Nat.le_of_ble_eq_true rfl) ?_
  intro p e s m below meth c ls hsz C hW hr hk _ hl
  subst hsz
  exact gx_Model_isOver_b0 F C hr hk u t0 o_t0 hW (lv_sub hl [0] rfl) h
-- GearDeskModel.tooth(II)I
theorem gk_449 : Cond.methodLink R_Model 206 gy_Model_isOver ∈ gt_T := gt_m6 (List.mem_of_getElem? (i := 227) rfl) rfl
theorem gk_450 : Cond.instanceMethod gy_Model_isOver ∈ gt_T := gt_m6 (List.mem_of_getElem? (i := 229) rfl) rfl
theorem gk_451 : Cond.selects R_Model gy_Model_isOver gy_Model_isOver ∈ gt_T := gt_p3 (List.mem_of_getElem? (i := 1) rfl) rfl
theorem gk_452 : Cond.methodLink R_Model 210 gy_Model_findTrain ∈ gt_T := gt_m6 (List.mem_of_getElem? (i := 231) rfl) rfl
theorem gk_453 : Cond.instanceMethod gy_Model_findTrain ∈ gt_T := gt_m6 (List.mem_of_getElem? (i := 233) rfl) rfl
theorem gk_454 : Cond.selects R_Model gy_Model_findTrain gy_Model_findTrain ∈ gt_T := gt_p3 (List.mem_of_getElem? (i := 2) rfl) rfl
def gy_Model_tooth : MethodName := ⟨R_Model, "tooth", "(II)I"⟩
abbrev gb_Model_tooth : ByteArray := prog_11_method_20_code
theorem gk_455 : Cond.code gy_Model_tooth gb_Model_tooth 3 (some .int) ∈ gt_T := gt_m6 (List.mem_of_getElem? (i := 226) rfl) rfl
def gr_Model_tooth : Room := gw_rm 5 167
theorem gm_Model_tooth : gw_Mth gy_Model_tooth gb_Model_tooth 3 (some .int) 2 := ⟨gk_455, gk_377, ⟨by decide +kernel, by decide +kernel⟩, by decide +kernel⟩
theorem gd_Model_tooth_0 : decode gb_Model_tooth 0 = .ok (.aload_n 0, 1) := by decide +kernel
theorem gd_Model_tooth_1 : decode gb_Model_tooth 1 = .ok (.iconst 0, 1) := by decide +kernel
theorem gd_Model_tooth_2 : decode gb_Model_tooth 2 = .ok (.putfield 112, 3) := by decide +kernel
theorem gd_Model_tooth_5 : decode gb_Model_tooth 5 = .ok (.aload_n 0, 1) := by decide +kernel
theorem gd_Model_tooth_6 : decode gb_Model_tooth 6 = .ok (.invokevirtual 206, 3) := by decide +kernel
theorem gd_Model_tooth_9 : decode gb_Model_tooth 9 = .ok (.ifCond .ne 9, 3) := by decide +kernel
theorem gd_Model_tooth_12 : decode gb_Model_tooth 12 = .ok (.aload_n 0, 1) := by decide +kernel
theorem gd_Model_tooth_13 : decode gb_Model_tooth 13 = .ok (.iconst 1, 1) := by decide +kernel
theorem gd_Model_tooth_14 : decode gb_Model_tooth 14 = .ok (.invokevirtual 123, 3) := by decide +kernel
theorem gd_Model_tooth_17 : decode gb_Model_tooth 17 = .ok (.ireturn, 1) := by decide +kernel
theorem gd_Model_tooth_18 : decode gb_Model_tooth 18 = .ok (.iload_n 1, 1) := by decide +kernel
theorem gd_Model_tooth_19 : decode gb_Model_tooth 19 = .ok (.iconst 0, 1) := by decide +kernel
theorem gd_Model_tooth_20 : decode gb_Model_tooth 20 = .ok (.aload_n 0, 1) := by decide +kernel
theorem gd_Model_tooth_21 : decode gb_Model_tooth 21 = .ok (.getfield 137, 3) := by decide +kernel
theorem gd_Model_tooth_24 : decode gb_Model_tooth 24 = .ok (.iconst 1, 1) := by decide +kernel
theorem gd_Model_tooth_25 : decode gb_Model_tooth 25 = .ok (.isub, 1) := by decide +kernel
theorem gd_Model_tooth_26 : decode gb_Model_tooth 26 = .ok (.invokestatic 119, 3) := by decide +kernel
theorem gd_Model_tooth_29 : decode gb_Model_tooth 29 = .ok (.ifCond .eq 12, 3) := by decide +kernel
theorem gd_Model_tooth_32 : decode gb_Model_tooth 32 = .ok (.iload_n 2, 1) := by decide +kernel
theorem gd_Model_tooth_33 : decode gb_Model_tooth 33 = .ok (.iconst 0, 1) := by decide +kernel
theorem gd_Model_tooth_34 : decode gb_Model_tooth 34 = .ok (.iconst 1, 1) := by decide +kernel
theorem gd_Model_tooth_35 : decode gb_Model_tooth 35 = .ok (.invokestatic 119, 3) := by decide +kernel
theorem gd_Model_tooth_38 : decode gb_Model_tooth 38 = .ok (.ifCond .ne 9, 3) := by decide +kernel
theorem gd_Model_tooth_41 : decode gb_Model_tooth 41 = .ok (.aload_n 0, 1) := by decide +kernel
theorem gd_Model_tooth_42 : decode gb_Model_tooth 42 = .ok (.iconst 2, 1) := by decide +kernel
theorem gd_Model_tooth_43 : decode gb_Model_tooth 43 = .ok (.invokevirtual 123, 3) := by decide +kernel
theorem gd_Model_tooth_46 : decode gb_Model_tooth 46 = .ok (.ireturn, 1) := by decide +kernel
theorem gd_Model_tooth_47 : decode gb_Model_tooth 47 = .ok (.aload_n 0, 1) := by decide +kernel
theorem gd_Model_tooth_48 : decode gb_Model_tooth 48 = .ok (.invokevirtual 210, 3) := by decide +kernel
theorem gd_Model_tooth_51 : decode gb_Model_tooth 51 = .ok (.aload_n 0, 1) := by decide +kernel
theorem gd_Model_tooth_52 : decode gb_Model_tooth 52 = .ok (.iload_n 2, 1) := by decide +kernel
theorem gd_Model_tooth_53 : decode gb_Model_tooth 53 = .ok (.ifCond .ne 10, 3) := by decide +kernel
theorem gd_Model_tooth_56 : decode gb_Model_tooth 56 = .ok (.aload_n 0, 1) := by decide +kernel
theorem gd_Model_tooth_57 : decode gb_Model_tooth 57 = .ok (.getfield 177, 3) := by decide +kernel
theorem gd_Model_tooth_60 : decode gb_Model_tooth 60 = .ok (.goto 7, 3) := by decide +kernel
theorem gd_Model_tooth_63 : decode gb_Model_tooth 63 = .ok (.aload_n 0, 1) := by decide +kernel
theorem gd_Model_tooth_64 : decode gb_Model_tooth 64 = .ok (.getfield 180, 3) := by decide +kernel
theorem gd_Model_tooth_67 : decode gb_Model_tooth 67 = .ok (.iload_n 1, 1) := by decide +kernel
theorem gd_Model_tooth_68 : decode gb_Model_tooth 68 = .ok (.invokevirtual 157, 3) := by decide +kernel
theorem gd_Model_tooth_71 : decode gb_Model_tooth 71 = .ok (.ireturn, 1) := by decide +kernel
def gf_Model_tooth_b41 (F : Nat) (z : gw_Sh)  (u : gw_St) (t0 : Nat) : Option (Int32 × gw_St) :=
  gf_cl (gf_Model_fail F z u t0 (2 : Int32)) fun a3 u1 => some (a3, u1)
def gf_Model_tooth_b67 (F : Nat) (z : gw_Sh)  (u : gw_St) (x1 : Int32) (st0 : Nat) (sx1 : Int32) : Option (Int32 × gw_St) :=
  gf_cl (gf_Model_wheel F z u st0 sx1 x1) fun a6 u4 => some (a6, u4)
def gf_Model_tooth_b0 (F : Nat) (z : gw_Sh)  (u : gw_St) (t0 : Nat) (x1 : Int32) (x2 : Int32) : Option (Int32 × gw_St) :=
  gf_nm (gw_wi u t0 0 (0 : Int32)) fun u7 => gf_cl (gf_Model_isOver F z u7 t0) fun a11 u9 => if a11 = 0 then (gf_cl (gf_Model_fail F z u9 t0 (1 : Int32)) fun a26 u24 => some (a26, u24)) else (gf_cl (gf_Model_within F z u9 x1 (0 : Int32) ((u9.1 t0 4) - (1 : Int32))) fun a15 u13 => if a15 = 0 then (gf_Model_tooth_b41 F z  u13 t0) else (gf_cl (gf_Model_within F z u13 x2 (0 : Int32) (1 : Int32)) fun a19 u17 => if a19 = 0 then (gf_Model_tooth_b41 F z  u17 t0) else ((gf_Model_findTrain F z u17 t0).bind fun u21 => if x2 = 0 then (gf_Model_tooth_b67 F z  u21 x1 t0 (u21.1 t0 16)) else (gf_Model_tooth_b67 F z  u21 x1 t0 (u21.1 t0 17)))))
def gf_Model_tooth (F : Nat) (z : gw_Sh) (u : gw_St) (t0 : Nat) (x1 : Int32) (x2 : Int32) : Option (Int32 × gw_St) := gf_Model_tooth_b0 F z  u t0 x1 x2
set_option maxHeartbeats 4000000 in
set_option maxRecDepth 20000 in
theorem gx_Model_tooth_b41 {p : Program} {l : Launch} {e : Env} {s : State} {m : MethodId} {args : Array Value} {below : List Frame} {meth : Method} {c : Code} {D : va_G} {cA : Nat → ClassId} {hs : Nat → Nat} {z : gw_Sh} (F : Nat) {r0 : (Int32 × gw_St)} (C : gw_Cx p s m args c gb_Model_tooth 3 R_Model D cA) (hr : meth.sig.returnType = (some .int)) (hk : meth.locks = false) (u : gw_St) (t0 : Nat) (o_t0 : gw_ok z t0 9) {H : Heap} {locs : List Loc} {ls : Array Slot} (hW : gw_Wx D cA hs z s u H locs) (hl : lv_has ls 3 [(0, .ref (hs t0))]) (h : gf_Model_tooth_b41 F z   u t0 = some r0) : gw_Gi p l e gr_Model_tooth s m args below meth c D cA hs z r0 H locs ls 41 [] := by
  obtain ⟨hx, hb, hml, hown, hts, hK⟩ := id C
  unfold gf_Model_tooth_b41 at h
  refine lv_aload_n hx hb gd_Model_tooth_41 rfl (lv_at hl 0 rfl) ?_
  refine lv_iconst (v := 2) hx hb gd_Model_tooth_42 (by decide) ?_
  obtain ⟨a3, u1, d2, h⟩ := gf_cl_ok h
  refine gw_callVi (K := R_Model) (As := [.int (2 : Int32)]) (rest := []) C hW (fun _ h => Or.inr h) hl.1 gm_Model_fail (gc_Model_fail l F o_t0 d2 _) gk_385 gk_386 gk_387 o_t0 (by decide) rfl rfl rfl ⟨Nat.le_of_ble_eq_true rfl, Nat.le_of_ble_eq_true rfl⟩ ⟨Nat.zero_le _, Nat.zero_le _⟩ rfl rfl (Nat.le_of_ble_eq_true rfl) gd_Model_tooth_43 (fun H locs hW => ?_)
  obtain rfl := Option.some.inj h
  exact gw_iret C hW hr hk gd_Model_tooth_46

set_option maxHeartbeats 4000000 in
set_option maxRecDepth 20000 in
theorem gx_Model_tooth_b67 {p : Program} {l : Launch} {e : Env} {s : State} {m : MethodId} {args : Array Value} {below : List Frame} {meth : Method} {c : Code} {D : va_G} {cA : Nat → ClassId} {hs : Nat → Nat} {z : gw_Sh} (F : Nat) {r0 : (Int32 × gw_St)} (C : gw_Cx p s m args c gb_Model_tooth 3 R_Model D cA) (hr : meth.sig.returnType = (some .int)) (hk : meth.locks = false) (u : gw_St) (x1 : Int32) (st0 : Nat) (sx1 : Int32) (o_st0 : gw_ok z st0 9) {H : Heap} {locs : List Loc} {ls : Array Slot} (hW : gw_Wx D cA hs z s u H locs) (hl : lv_has ls 3 [(1, .int x1)]) (h : gf_Model_tooth_b67 F z   u x1 st0 sx1 = some r0) : gw_Gi p l e gr_Model_tooth s m args below meth c D cA hs z r0 H locs ls 67 [.int sx1, .ref (hs st0)] := by
  obtain ⟨hx, hb, hml, hown, hts, hK⟩ := id C
  unfold gf_Model_tooth_b67 at h
  refine lv_iload_n hx hb gd_Model_tooth_67 rfl (lv_at hl 0 rfl) ?_
  obtain ⟨a6, u4, d5, h⟩ := gf_cl_ok h
  refine gw_callVi (K := R_Model) (As := [.int sx1, .int x1]) (rest := []) C hW (fun _ h => Or.inr h) hl.1 gm_Model_wheel (gc_Model_wheel l F o_st0 d5 _) gk_404 gk_405 gk_406 o_st0 (by decide) rfl rfl rfl ⟨Nat.le_of_ble_eq_true rfl, Nat.le_of_ble_eq_true rfl⟩ ⟨Nat.zero_le _, Nat.zero_le _⟩ rfl rfl (Nat.le_of_ble_eq_true rfl) gd_Model_tooth_68 (fun H locs hW => ?_)
  obtain rfl := Option.some.inj h
  exact gw_iret C hW hr hk gd_Model_tooth_71

set_option maxHeartbeats 4000000 in
set_option maxRecDepth 20000 in
theorem gx_Model_tooth_b0 {p : Program} {l : Launch} {e : Env} {s : State} {m : MethodId} {args : Array Value} {below : List Frame} {meth : Method} {c : Code} {D : va_G} {cA : Nat → ClassId} {hs : Nat → Nat} {z : gw_Sh} (F : Nat) {r0 : (Int32 × gw_St)} (C : gw_Cx p s m args c gb_Model_tooth 3 R_Model D cA) (hr : meth.sig.returnType = (some .int)) (hk : meth.locks = false) (u : gw_St) (t0 : Nat) (x1 : Int32) (x2 : Int32) (o_t0 : gw_ok z t0 9) {H : Heap} {locs : List Loc} {ls : Array Slot} (hW : gw_Wx D cA hs z s u H locs) (hl : lv_has ls 3 [(0, .ref (hs t0)), (1, .int x1), (2, .int x2)]) (h : gf_Model_tooth_b0 F z   u t0 x1 x2 = some r0) : gw_Gi p l e gr_Model_tooth s m args below meth c D cA hs z r0 H locs ls 0 [] := by
  obtain ⟨hx, hb, hml, hown, hts, hK⟩ := id C
  unfold gf_Model_tooth_b0 at h
  refine lv_aload_n hx hb gd_Model_tooth_0 rfl (lv_at hl 0 rfl) ?_
  refine lv_iconst (v := 0) hx hb gd_Model_tooth_1 (by decide) ?_
  refine gw_puti (k := 0) (ref := R_Model) (fty := .int) C hW o_t0 (by decide) rfl gi_Model rfl (by decide) rfl rfl gk_376 tf_Model tf_Model_ok nm_Model rfl rfl rfl rfl gd_Model_tooth_2 (fun u7 H locs e8 hW => ?_)
  have h := gf_nm_ok e8 h
  refine lv_aload_n hx hb gd_Model_tooth_5 rfl (lv_at hl 0 rfl) ?_
  obtain ⟨a11, u9, d10, h⟩ := gf_cl_ok h
  refine gw_callVi (K := R_Model) (As := []) (rest := []) C hW (fun _ h => Or.inr h) hl.1 gm_Model_isOver (gc_Model_isOver l F o_t0 d10 _) gk_449 gk_450 gk_451 o_t0 (by decide) rfl rfl rfl ⟨Nat.le_of_ble_eq_true rfl, Nat.le_of_ble_eq_true rfl⟩ ⟨Nat.zero_le _, Nat.zero_le _⟩ rfl rfl (Nat.le_of_ble_eq_true rfl) gd_Model_tooth_6 (fun H locs hW => ?_)
  refine lv_if_ne (tgt := 18) hx hb gd_Model_tooth_9 (by decide) (fun c12 => ?_) (fun c12 => ?_)
  · have h := gf_f c12 h
    refine lv_iload_n hx hb gd_Model_tooth_18 rfl (lv_at hl 1 rfl) ?_
    refine lv_iconst (v := 0) hx hb gd_Model_tooth_19 (by decide) ?_
    refine lv_aload_n hx hb gd_Model_tooth_20 rfl (lv_at hl 0 rfl) ?_
    refine gw_geti (k := 4) (ref := R_Model) C hW o_t0 (by decide) rfl gi_Model rfl (by decide) rfl rfl gk_391 gd_Model_tooth_21 ?_
    refine lv_iconst (v := 1) hx hb gd_Model_tooth_24 (by decide) ?_
    refine lv_isub hx hb gd_Model_tooth_25 ?_
    obtain ⟨a15, u13, d14, h⟩ := gf_cl_ok h
    refine gw_callSi (As := [.int x1, .int (0 : Int32), .int ((u9.1 t0 4) - (1 : Int32))]) (rest := []) C hW (fun _ h => Or.inr h) hl.1 gm_Model_within (gc_Model_within l F  d14 _) gk_398 gk_399 rfl rfl ⟨Nat.le_of_ble_eq_true rfl, Nat.le_of_ble_eq_true rfl⟩ ⟨Nat.zero_le _, Nat.zero_le _⟩ rfl rfl (Nat.le_of_ble_eq_true rfl) gd_Model_tooth_26 (fun H locs hW => ?_)
    refine lv_if_eq (tgt := 41) hx hb gd_Model_tooth_29 (by decide) (fun c16 => ?_) (fun c16 => ?_)
    · have h := gf_t c16 h
      exact gx_Model_tooth_b41 F C hr hk  u13 t0 o_t0 hW (lv_sub hl [0] rfl) h
    · have h := gf_f c16 h
      refine lv_iload_n hx hb gd_Model_tooth_32 rfl (lv_at hl 2 rfl) ?_
      refine lv_iconst (v := 0) hx hb gd_Model_tooth_33 (by decide) ?_
      refine lv_iconst (v := 1) hx hb gd_Model_tooth_34 (by decide) ?_
      obtain ⟨a19, u17, d18, h⟩ := gf_cl_ok h
      refine gw_callSi (As := [.int x2, .int (0 : Int32), .int (1 : Int32)]) (rest := []) C hW (fun _ h => Or.inr h) hl.1 gm_Model_within (gc_Model_within l F  d18 _) gk_398 gk_399 rfl rfl ⟨Nat.le_of_ble_eq_true rfl, Nat.le_of_ble_eq_true rfl⟩ ⟨Nat.zero_le _, Nat.zero_le _⟩ rfl rfl (Nat.le_of_ble_eq_true rfl) gd_Model_tooth_35 (fun H locs hW => ?_)
      refine lv_if_ne (tgt := 47) hx hb gd_Model_tooth_38 (by decide) (fun c20 => ?_) (fun c20 => ?_)
      · have h := gf_f c20 h
        refine lv_aload_n hx hb gd_Model_tooth_47 rfl (lv_at hl 0 rfl) ?_
        obtain ⟨u21, d22, h⟩ := gf_bd_ok h
        refine gw_callVv (K := R_Model) (As := []) (rest := []) C hW (fun _ h => Or.inr h) hl.1 gm_Model_findTrain (gc_Model_findTrain l F o_t0 d22 _) gk_452 gk_453 gk_454 o_t0 (by decide) rfl rfl rfl ⟨Nat.le_of_ble_eq_true rfl, Nat.le_of_ble_eq_true rfl⟩ ⟨Nat.zero_le _, Nat.zero_le _⟩ rfl rfl (Nat.le_of_ble_eq_true rfl) gd_Model_tooth_48 (fun H locs hW => ?_)
        refine lv_aload_n hx hb gd_Model_tooth_51 rfl (lv_at hl 0 rfl) ?_
        refine lv_iload_n hx hb gd_Model_tooth_52 rfl (lv_at hl 2 rfl) ?_
        refine lv_if_ne (tgt := 63) hx hb gd_Model_tooth_53 (by decide) (fun c23 => ?_) (fun c23 => ?_)
        · have h := gf_f c23 h
          refine lv_aload_n hx hb gd_Model_tooth_63 rfl (lv_at hl 0 rfl) ?_
          refine gw_geti (k := 17) (ref := R_Model) C hW o_t0 (by decide) rfl gi_Model rfl (by decide) rfl rfl gk_430 gd_Model_tooth_64 ?_
          exact gx_Model_tooth_b67 F C hr hk  u21 x1 t0 (u21.1 t0 17) o_t0 hW (lv_sub hl [1] rfl) h
        · have h := gf_t c23 h
          refine lv_aload_n hx hb gd_Model_tooth_56 rfl (lv_at hl 0 rfl) ?_
          refine gw_geti (k := 16) (ref := R_Model) C hW o_t0 (by decide) rfl gi_Model rfl (by decide) rfl rfl gk_429 gd_Model_tooth_57 ?_
          refine lv_goto (tgt := 67) hx hb gd_Model_tooth_60 (by decide) ?_
          exact gx_Model_tooth_b67 F C hr hk  u21 x1 t0 (u21.1 t0 16) o_t0 hW (lv_sub hl [1] rfl) h
      · have h := gf_t c20 h
        exact gx_Model_tooth_b41 F C hr hk  u17 t0 o_t0 hW (lv_sub hl [0] rfl) h
  · have h := gf_t c12 h
    refine lv_aload_n hx hb gd_Model_tooth_12 rfl (lv_at hl 0 rfl) ?_
    refine lv_iconst (v := 1) hx hb gd_Model_tooth_13 (by decide) ?_
    obtain ⟨a26, u24, d25, h⟩ := gf_cl_ok h
    refine gw_callVi (K := R_Model) (As := [.int (1 : Int32)]) (rest := []) C hW (fun _ h => Or.inr h) hl.1 gm_Model_fail (gc_Model_fail l F o_t0 d25 _) gk_385 gk_386 gk_387 o_t0 (by decide) rfl rfl rfl ⟨Nat.le_of_ble_eq_true rfl, Nat.le_of_ble_eq_true rfl⟩ ⟨Nat.zero_le _, Nat.zero_le _⟩ rfl rfl (Nat.le_of_ble_eq_true rfl) gd_Model_tooth_14 (fun H locs hW => ?_)
    obtain rfl := Option.some.inj h
    exact gw_iret C hW hr hk gd_Model_tooth_17

set_option maxRecDepth 20000 in
theorem gc_Model_tooth (l : Launch) {D : va_G} {cA : Nat → ClassId} {hs : Nat → Nat} {z : gw_Sh} (F : Nat) {u : gw_St} {r0 : (Int32 × gw_St)} {t0 : Nat} {x1 : Int32} {x2 : Int32} (o_t0 : gw_ok z t0 9) (h : gf_Model_tooth F z u t0 x1 x2 = some r0) (sz : Nat) : gw_Mi l gy_Model_tooth gb_Model_tooth 3 (some .int) gr_Model_tooth [.ref (hs t0), .int x1, .int x2] D cA hs z u sz r0 := by
  refine gw_enter (by decide) (Nat.le_of_ble_eq_true rfl) ?_
  intro p e s m below meth c ls hsz C hW hr hk _ hl
  subst hsz
  exact gx_Model_tooth_b0 F C hr hk u t0 x1 x2 o_t0 hW (lv_sub hl [0, 1, 2] rfl) h
-- GearDeskModel.gcd(JJ)J
def gy_Model_gcd : MethodName := ⟨R_Model, "gcd", "(JJ)J"⟩
abbrev gb_Model_gcd : ByteArray := prog_11_method_21_code
theorem gk_456 : Cond.code gy_Model_gcd gb_Model_gcd 10 (some .long) ∈ gt_T := gt_m7 (List.mem_of_getElem? (i := 36) rfl) rfl
def gr_Model_gcd : Room := gw_rm 1 64
theorem gm_Model_gcd : gw_Mth gy_Model_gcd gb_Model_gcd 10 (some .long) 2 := ⟨gk_456, gk_377, ⟨by decide +kernel, by decide +kernel⟩, by decide +kernel⟩
theorem gd_Model_gcd_0 : decode gb_Model_gcd 0 = .ok (.lload_n 0, 1) := by decide +kernel
theorem gd_Model_gcd_1 : decode gb_Model_gcd 1 = .ok (.lstore 4, 2) := by decide +kernel
theorem gd_Model_gcd_3 : decode gb_Model_gcd 3 = .ok (.lload_n 2, 1) := by decide +kernel
theorem gd_Model_gcd_4 : decode gb_Model_gcd 4 = .ok (.lstore 6, 2) := by decide +kernel
theorem gd_Model_gcd_6 : decode gb_Model_gcd 6 = .ok (.lload 6, 2) := by decide +kernel
theorem gd_Model_gcd_8 : decode gb_Model_gcd 8 = .ok (.lconst 0, 1) := by decide +kernel
theorem gd_Model_gcd_9 : decode gb_Model_gcd 9 = .ok (.lcmp, 1) := by decide +kernel
theorem gd_Model_gcd_10 : decode gb_Model_gcd 10 = .ok (.ifCond .eq 21, 3) := by decide +kernel
theorem gd_Model_gcd_13 : decode gb_Model_gcd 13 = .ok (.lload 4, 2) := by decide +kernel
theorem gd_Model_gcd_15 : decode gb_Model_gcd 15 = .ok (.lload 6, 2) := by decide +kernel
theorem gd_Model_gcd_17 : decode gb_Model_gcd 17 = .ok (.lrem, 1) := by decide +kernel
theorem gd_Model_gcd_18 : decode gb_Model_gcd 18 = .ok (.lstore 8, 2) := by decide +kernel
theorem gd_Model_gcd_20 : decode gb_Model_gcd 20 = .ok (.lload 6, 2) := by decide +kernel
theorem gd_Model_gcd_22 : decode gb_Model_gcd 22 = .ok (.lstore 4, 2) := by decide +kernel
theorem gd_Model_gcd_24 : decode gb_Model_gcd 24 = .ok (.lload 8, 2) := by decide +kernel
theorem gd_Model_gcd_26 : decode gb_Model_gcd 26 = .ok (.lstore 6, 2) := by decide +kernel
theorem gd_Model_gcd_28 : decode gb_Model_gcd 28 = .ok (.goto (-22), 3) := by decide +kernel
theorem gd_Model_gcd_31 : decode gb_Model_gcd 31 = .ok (.lload 4, 2) := by decide +kernel
theorem gd_Model_gcd_33 : decode gb_Model_gcd 33 = .ok (.lreturn, 1) := by decide +kernel
def gf_Model_gcd_S6 (F : Nat) (z : gw_Sh)  (rc_6 : gw_St → Int64 → Int64 → Option (Int64 × gw_St)) (u : gw_St) (y4 : Int64) (y6 : Int64) : Option (Int64 × gw_St) :=
  if (lg_cmp y6 (0 : Int64)) = 0 then (some (y4, u)) else (if y6 = 0 then none else gf_nm (y4 - y4 / y6 * y6) fun a3 => rc_6 u y6 a3)
def gf_Model_gcd_L6 (F : Nat) (z : gw_Sh)  : Nat → gw_St → Int64 → Int64 → Option (Int64 × gw_St)
  | 0 => fun _ _ _ => none
  | n + 1 => fun u y4 y6 => gf_Model_gcd_S6 F z  (gf_Model_gcd_L6 F z  n) u y4 y6
def gf_Model_gcd_b0 (F : Nat) (z : gw_Sh)  (u : gw_St) (y0 : Int64) (y2 : Int64) : Option (Int64 × gw_St) :=
  gf_Model_gcd_L6 F z  F u y0 y2
def gf_Model_gcd (F : Nat) (z : gw_Sh) (u : gw_St) (y0 : Int64) (y2 : Int64) : Option (Int64 × gw_St) := gf_Model_gcd_b0 F z  u y0 y2
set_option maxHeartbeats 4000000 in
set_option maxRecDepth 20000 in
theorem gx_Model_gcd_S6 {p : Program} {l : Launch} {e : Env} {s : State} {m : MethodId} {args : Array Value} {below : List Frame} {meth : Method} {c : Code} {D : va_G} {cA : Nat → ClassId} {hs : Nat → Nat} {z : gw_Sh} (F : Nat) {r0 : (Int64 × gw_St)} (C : gw_Cx p s m args c gb_Model_gcd 10 R_Model D cA) (hr : meth.sig.returnType = (some .long)) (hk : meth.locks = false) {rc_6 : gw_St → Int64 → Int64 → Option (Int64 × gw_St)} (k_6 : ∀ (u : gw_St) (y4 : Int64) (y6 : Int64) (H : Heap) (locs : List Loc) (ls : Array Slot), gw_Wx D cA hs z s u H locs → lv_has ls 10 [(4, .long y4), (6, .long y6)] → rc_6 u y4 y6 = some r0 → gw_Gl p l e gr_Model_gcd s m args below meth c D cA hs z r0 H locs ls 6 []) (u : gw_St) (y4 : Int64) (y6 : Int64)  {H : Heap} {locs : List Loc} {ls : Array Slot} (hW : gw_Wx D cA hs z s u H locs) (hl : lv_has ls 10 [(4, .long y4), (6, .long y6)]) (h : gf_Model_gcd_S6 F z  rc_6 u y4 y6 = some r0) : gw_Gl p l e gr_Model_gcd s m args below meth c D cA hs z r0 H locs ls 6 [] := by
  obtain ⟨hx, hb, hml, hown, hts, hK⟩ := id C
  unfold gf_Model_gcd_S6 at h
  refine lv_lload hx hb gd_Model_gcd_6 (lv_at hl 1 rfl) ?_
  refine lv_lconst (v := 0) hx hb gd_Model_gcd_8 (by decide) ?_
  refine W.lcmp hx hb gd_Model_gcd_9 ?_
  refine lv_if_eq (tgt := 31) hx hb gd_Model_gcd_10 (by decide) (fun c1 => ?_) (fun c1 => ?_)
  · have h := gf_t c1 h
    refine lv_lload hx hb gd_Model_gcd_31 (lv_at hl 0 rfl) ?_
    obtain rfl := Option.some.inj h
    exact gw_lret C hW hr hk gd_Model_gcd_33
  · have h := gf_f c1 h
    refine lv_lload hx hb gd_Model_gcd_13 (lv_at hl 0 rfl) ?_
    refine lv_lload hx hb gd_Model_gcd_15 (lv_at hl 1 rfl) ?_
    obtain ⟨g2, h⟩ := gf_if_ok h
    refine lv_lrem hx hb gd_Model_gcd_17 g2 ?_
    refine lv_topl (fun a3 e4 => ?_)
    have h := gf_nm_ok e4 h
    refine lv_lstore (lv' := [(8, .long a3), (4, .long y4), (6, .long y6)]) hx hb gd_Model_gcd_18 hl (by decide) rfl (fun ls hl => ?_)
    refine lv_lload hx hb gd_Model_gcd_20 (lv_at hl 2 rfl) ?_
    refine lv_lstore (lv' := [(4, .long y6), (8, .long a3), (6, .long y6)]) hx hb gd_Model_gcd_22 hl (by decide) rfl (fun ls hl => ?_)
    refine lv_lload hx hb gd_Model_gcd_24 (lv_at hl 1 rfl) ?_
    refine lv_lstore (lv' := [(6, .long a3), (4, .long y6), (8, .long a3)]) hx hb gd_Model_gcd_26 hl (by decide) rfl (fun ls hl => ?_)
    refine lv_goto (tgt := 6) hx hb gd_Model_gcd_28 (by decide) ?_
    exact k_6 u y6 a3 _ _ _  hW (lv_sub hl [1, 0] rfl) h
set_option maxHeartbeats 4000000 in
set_option maxRecDepth 20000 in
theorem gx_Model_gcd_L6 {p : Program} {l : Launch} {e : Env} {s : State} {m : MethodId} {args : Array Value} {below : List Frame} {meth : Method} {c : Code} {D : va_G} {cA : Nat → ClassId} {hs : Nat → Nat} {z : gw_Sh} (F : Nat) {r0 : (Int64 × gw_St)} (C : gw_Cx p s m args c gb_Model_gcd 10 R_Model D cA) (hr : meth.sig.returnType = (some .long)) (hk : meth.locks = false) : ∀ (n : Nat), ∀ (u : gw_St) (y4 : Int64) (y6 : Int64) (H : Heap) (locs : List Loc) (ls : Array Slot), gw_Wx D cA hs z s u H locs → lv_has ls 10 [(4, .long y4), (6, .long y6)] → gf_Model_gcd_L6 F z  n u y4 y6 = some r0 → gw_Gl p l e gr_Model_gcd s m args below meth c D cA hs z r0 H locs ls 6 [] := by
  intro n
  induction n with
  | zero =>
    intro u y4 y6 H locs ls  hW hl h
    cases h
  | succ n ih =>
    intro u y4 y6 H locs ls  hW hl h
    exact gx_Model_gcd_S6 F C hr hk  ih u y4 y6  hW hl h

set_option maxHeartbeats 4000000 in
set_option maxRecDepth 20000 in
theorem gx_Model_gcd_b0 {p : Program} {l : Launch} {e : Env} {s : State} {m : MethodId} {args : Array Value} {below : List Frame} {meth : Method} {c : Code} {D : va_G} {cA : Nat → ClassId} {hs : Nat → Nat} {z : gw_Sh} (F : Nat) {r0 : (Int64 × gw_St)} (C : gw_Cx p s m args c gb_Model_gcd 10 R_Model D cA) (hr : meth.sig.returnType = (some .long)) (hk : meth.locks = false) (u : gw_St) (y0 : Int64) (y2 : Int64)  {H : Heap} {locs : List Loc} {ls : Array Slot} (hW : gw_Wx D cA hs z s u H locs) (hl : lv_has ls 10 [(0, .long y0), (2, .long y2)]) (h : gf_Model_gcd_b0 F z   u y0 y2 = some r0) : gw_Gl p l e gr_Model_gcd s m args below meth c D cA hs z r0 H locs ls 0 [] := by
  obtain ⟨hx, hb, hml, hown, hts, hK⟩ := id C
  unfold gf_Model_gcd_b0 at h
  refine lv_lload_n hx hb gd_Model_gcd_0 rfl (lv_at hl 0 rfl) ?_
  refine lv_lstore (lv' := [(4, .long y0), (0, .long y0), (2, .long y2)]) hx hb gd_Model_gcd_1 hl (by decide) rfl (fun ls hl => ?_)
  refine lv_lload_n hx hb gd_Model_gcd_3 rfl (lv_at hl 2 rfl) ?_
  refine lv_lstore (lv' := [(6, .long y2), (4, .long y0), (0, .long y0), (2, .long y2)]) hx hb gd_Model_gcd_4 hl (by decide) rfl (fun ls hl => ?_)
  exact gx_Model_gcd_L6 F C hr hk  F u y0 y2 _ _ _  hW (lv_sub hl [1, 0] rfl) h

set_option maxRecDepth 20000 in
theorem gc_Model_gcd (l : Launch) {D : va_G} {cA : Nat → ClassId} {hs : Nat → Nat} {z : gw_Sh} (F : Nat) {u : gw_St} {r0 : (Int64 × gw_St)} {y0 : Int64} {y2 : Int64}  (h : gf_Model_gcd F z u y0 y2 = some r0) (sz : Nat) : gw_Ml l gy_Model_gcd gb_Model_gcd 10 (some .long) gr_Model_gcd [.long y0, .long y2] D cA hs z u sz r0 := by
  refine gw_enter (by decide) (Nat.le_of_ble_eq_true rfl) ?_
  intro p e s m below meth c ls hsz C hW hr hk _ hl
  subst hsz
  exact gx_Model_gcd_b0 F C hr hk u y0 y2  hW (lv_sub hl [0, 1] rfl) h
-- GearDeskModel.error(I)J
theorem gk_457 : Cond.methodLink R_Model 213 gy_Model_gcd ∈ gt_T := gt_m7 (List.mem_of_getElem? (i := 34) rfl) rfl
theorem gk_458 : Cond.static gy_Model_gcd ∈ gt_T := gt_m7 (List.mem_of_getElem? (i := 35) rfl) rfl
def gy_Model_error : MethodName := ⟨R_Model, "error", "(I)J"⟩
abbrev gb_Model_error : ByteArray := prog_11_method_22_code
theorem gk_459 : Cond.code gy_Model_error gb_Model_error 4 (some .long) ∈ gt_T := gt_m7 (List.mem_of_getElem? (i := 33) rfl) rfl
def gr_Model_error : Room := gw_rm 5 167
theorem gm_Model_error : gw_Mth gy_Model_error gb_Model_error 4 (some .long) 1 := ⟨gk_459, gk_377, ⟨by decide +kernel, by decide +kernel⟩, by decide +kernel⟩
theorem gd_Model_error_0 : decode gb_Model_error 0 = .ok (.aload_n 0, 1) := by decide +kernel
theorem gd_Model_error_1 : decode gb_Model_error 1 = .ok (.iconst 0, 1) := by decide +kernel
theorem gd_Model_error_2 : decode gb_Model_error 2 = .ok (.putfield 112, 3) := by decide +kernel
theorem gd_Model_error_5 : decode gb_Model_error 5 = .ok (.aload_n 0, 1) := by decide +kernel
theorem gd_Model_error_6 : decode gb_Model_error 6 = .ok (.invokevirtual 206, 3) := by decide +kernel
theorem gd_Model_error_9 : decode gb_Model_error 9 = .ok (.ifCond .ne 10, 3) := by decide +kernel
theorem gd_Model_error_12 : decode gb_Model_error 12 = .ok (.aload_n 0, 1) := by decide +kernel
theorem gd_Model_error_13 : decode gb_Model_error 13 = .ok (.iconst 1, 1) := by decide +kernel
theorem gd_Model_error_14 : decode gb_Model_error 14 = .ok (.invokevirtual 123, 3) := by decide +kernel
theorem gd_Model_error_17 : decode gb_Model_error 17 = .ok (.i2l, 1) := by decide +kernel
theorem gd_Model_error_18 : decode gb_Model_error 18 = .ok (.lreturn, 1) := by decide +kernel
theorem gd_Model_error_19 : decode gb_Model_error 19 = .ok (.iload_n 1, 1) := by decide +kernel
theorem gd_Model_error_20 : decode gb_Model_error 20 = .ok (.iconst 0, 1) := by decide +kernel
theorem gd_Model_error_21 : decode gb_Model_error 21 = .ok (.iconst 1, 1) := by decide +kernel
theorem gd_Model_error_22 : decode gb_Model_error 22 = .ok (.invokestatic 119, 3) := by decide +kernel
theorem gd_Model_error_25 : decode gb_Model_error 25 = .ok (.ifCond .ne 10, 3) := by decide +kernel
theorem gd_Model_error_28 : decode gb_Model_error 28 = .ok (.aload_n 0, 1) := by decide +kernel
theorem gd_Model_error_29 : decode gb_Model_error 29 = .ok (.iconst 2, 1) := by decide +kernel
theorem gd_Model_error_30 : decode gb_Model_error 30 = .ok (.invokevirtual 123, 3) := by decide +kernel
theorem gd_Model_error_33 : decode gb_Model_error 33 = .ok (.i2l, 1) := by decide +kernel
theorem gd_Model_error_34 : decode gb_Model_error 34 = .ok (.lreturn, 1) := by decide +kernel
theorem gd_Model_error_35 : decode gb_Model_error 35 = .ok (.aload_n 0, 1) := by decide +kernel
theorem gd_Model_error_36 : decode gb_Model_error 36 = .ok (.invokevirtual 210, 3) := by decide +kernel
theorem gd_Model_error_39 : decode gb_Model_error 39 = .ok (.aload_n 0, 1) := by decide +kernel
theorem gd_Model_error_40 : decode gb_Model_error 40 = .ok (.getfield 183, 3) := by decide +kernel
theorem gd_Model_error_43 : decode gb_Model_error 43 = .ok (.aload_n 0, 1) := by decide +kernel
theorem gd_Model_error_44 : decode gb_Model_error 44 = .ok (.getfield 187, 3) := by decide +kernel
theorem gd_Model_error_47 : decode gb_Model_error 47 = .ok (.invokestatic 213, 3) := by decide +kernel
theorem gd_Model_error_50 : decode gb_Model_error 50 = .ok (.lstore_n 2, 1) := by decide +kernel
theorem gd_Model_error_51 : decode gb_Model_error 51 = .ok (.iload_n 1, 1) := by decide +kernel
theorem gd_Model_error_52 : decode gb_Model_error 52 = .ok (.ifCond .ne 12, 3) := by decide +kernel
theorem gd_Model_error_55 : decode gb_Model_error 55 = .ok (.aload_n 0, 1) := by decide +kernel
theorem gd_Model_error_56 : decode gb_Model_error 56 = .ok (.getfield 187, 3) := by decide +kernel
theorem gd_Model_error_59 : decode gb_Model_error 59 = .ok (.lload_n 2, 1) := by decide +kernel
theorem gd_Model_error_60 : decode gb_Model_error 60 = .ok (.ldiv, 1) := by decide +kernel
theorem gd_Model_error_61 : decode gb_Model_error 61 = .ok (.goto 9, 3) := by decide +kernel
theorem gd_Model_error_64 : decode gb_Model_error 64 = .ok (.aload_n 0, 1) := by decide +kernel
theorem gd_Model_error_65 : decode gb_Model_error 65 = .ok (.getfield 183, 3) := by decide +kernel
theorem gd_Model_error_68 : decode gb_Model_error 68 = .ok (.lload_n 2, 1) := by decide +kernel
theorem gd_Model_error_69 : decode gb_Model_error 69 = .ok (.ldiv, 1) := by decide +kernel
theorem gd_Model_error_70 : decode gb_Model_error 70 = .ok (.lreturn, 1) := by decide +kernel
def gf_Model_error_b70 (F : Nat) (z : gw_Sh)  (u : gw_St) (sy0 : Int64) : Option (Int64 × gw_St) :=
  some (sy0, u)
def gf_Model_error_b0 (F : Nat) (z : gw_Sh)  (u : gw_St) (t0 : Nat) (x1 : Int32) : Option (Int64 × gw_St) :=
  gf_nm (gw_wi u t0 0 (0 : Int32)) fun u1 => gf_cl (gf_Model_isOver F z u1 t0) fun a5 u3 => if a5 = 0 then (gf_cl (gf_Model_fail F z u3 t0 (1 : Int32)) fun a24 u22 => some (((a24).toInt64), u22)) else (gf_cl (gf_Model_within F z u3 x1 (0 : Int32) (1 : Int32)) fun a9 u7 => if a9 = 0 then (gf_cl (gf_Model_fail F z u7 t0 (2 : Int32)) fun a21 u19 => some (((a21).toInt64), u19)) else ((gf_Model_findTrain F z u7 t0).bind fun u11 => gf_cl (gf_Model_gcd F z u11 (u11.2.1 t0 14) (u11.2.1 t0 13)) fun a15 u13 => if x1 = 0 then (if a15 = 0 then none else gf_Model_error_b70 F z  u13 ((u13.2.1 t0 13) / a15)) else (if a15 = 0 then none else gf_Model_error_b70 F z  u13 ((u13.2.1 t0 14) / a15))))
def gf_Model_error (F : Nat) (z : gw_Sh) (u : gw_St) (t0 : Nat) (x1 : Int32) : Option (Int64 × gw_St) := gf_Model_error_b0 F z  u t0 x1
set_option maxHeartbeats 4000000 in
set_option maxRecDepth 20000 in
theorem gx_Model_error_b70 {p : Program} {l : Launch} {e : Env} {s : State} {m : MethodId} {args : Array Value} {below : List Frame} {meth : Method} {c : Code} {D : va_G} {cA : Nat → ClassId} {hs : Nat → Nat} {z : gw_Sh} (F : Nat) {r0 : (Int64 × gw_St)} (C : gw_Cx p s m args c gb_Model_error 4 R_Model D cA) (hr : meth.sig.returnType = (some .long)) (hk : meth.locks = false) (u : gw_St) (sy0 : Int64)  {H : Heap} {locs : List Loc} {ls : Array Slot} (hW : gw_Wx D cA hs z s u H locs) (hl : lv_has ls 4 []) (h : gf_Model_error_b70 F z   u sy0 = some r0) : gw_Gl p l e gr_Model_error s m args below meth c D cA hs z r0 H locs ls 70 [.long sy0] := by
  obtain ⟨hx, hb, hml, hown, hts, hK⟩ := id C
  unfold gf_Model_error_b70 at h
  obtain rfl := Option.some.inj h
  exact gw_lret C hW hr hk gd_Model_error_70

set_option maxHeartbeats 4000000 in
set_option maxRecDepth 20000 in
theorem gx_Model_error_b0 {p : Program} {l : Launch} {e : Env} {s : State} {m : MethodId} {args : Array Value} {below : List Frame} {meth : Method} {c : Code} {D : va_G} {cA : Nat → ClassId} {hs : Nat → Nat} {z : gw_Sh} (F : Nat) {r0 : (Int64 × gw_St)} (C : gw_Cx p s m args c gb_Model_error 4 R_Model D cA) (hr : meth.sig.returnType = (some .long)) (hk : meth.locks = false) (u : gw_St) (t0 : Nat) (x1 : Int32) (o_t0 : gw_ok z t0 9) {H : Heap} {locs : List Loc} {ls : Array Slot} (hW : gw_Wx D cA hs z s u H locs) (hl : lv_has ls 4 [(0, .ref (hs t0)), (1, .int x1)]) (h : gf_Model_error_b0 F z   u t0 x1 = some r0) : gw_Gl p l e gr_Model_error s m args below meth c D cA hs z r0 H locs ls 0 [] := by
  obtain ⟨hx, hb, hml, hown, hts, hK⟩ := id C
  unfold gf_Model_error_b0 at h
  refine lv_aload_n hx hb gd_Model_error_0 rfl (lv_at hl 0 rfl) ?_
  refine lv_iconst (v := 0) hx hb gd_Model_error_1 (by decide) ?_
  refine gw_puti (k := 0) (ref := R_Model) (fty := .int) C hW o_t0 (by decide) rfl gi_Model rfl (by decide) rfl rfl gk_376 tf_Model tf_Model_ok nm_Model rfl rfl rfl rfl gd_Model_error_2 (fun u1 H locs e2 hW => ?_)
  have h := gf_nm_ok e2 h
  refine lv_aload_n hx hb gd_Model_error_5 rfl (lv_at hl 0 rfl) ?_
  obtain ⟨a5, u3, d4, h⟩ := gf_cl_ok h
  refine gw_callVi (K := R_Model) (As := []) (rest := []) C hW (fun _ h => Or.inr h) hl.1 gm_Model_isOver (gc_Model_isOver l F o_t0 d4 _) gk_449 gk_450 gk_451 o_t0 (by decide) rfl rfl rfl ⟨Nat.le_of_ble_eq_true rfl, Nat.le_of_ble_eq_true rfl⟩ ⟨Nat.zero_le _, Nat.zero_le _⟩ rfl rfl (Nat.le_of_ble_eq_true rfl) gd_Model_error_6 (fun H locs hW => ?_)
  refine lv_if_ne (tgt := 19) hx hb gd_Model_error_9 (by decide) (fun c6 => ?_) (fun c6 => ?_)
  · have h := gf_f c6 h
    refine lv_iload_n hx hb gd_Model_error_19 rfl (lv_at hl 1 rfl) ?_
    refine lv_iconst (v := 0) hx hb gd_Model_error_20 (by decide) ?_
    refine lv_iconst (v := 1) hx hb gd_Model_error_21 (by decide) ?_
    obtain ⟨a9, u7, d8, h⟩ := gf_cl_ok h
    refine gw_callSi (As := [.int x1, .int (0 : Int32), .int (1 : Int32)]) (rest := []) C hW (fun _ h => Or.inr h) hl.1 gm_Model_within (gc_Model_within l F  d8 _) gk_398 gk_399 rfl rfl ⟨Nat.le_of_ble_eq_true rfl, Nat.le_of_ble_eq_true rfl⟩ ⟨Nat.zero_le _, Nat.zero_le _⟩ rfl rfl (Nat.le_of_ble_eq_true rfl) gd_Model_error_22 (fun H locs hW => ?_)
    refine lv_if_ne (tgt := 35) hx hb gd_Model_error_25 (by decide) (fun c10 => ?_) (fun c10 => ?_)
    · have h := gf_f c10 h
      refine lv_aload_n hx hb gd_Model_error_35 rfl (lv_at hl 0 rfl) ?_
      obtain ⟨u11, d12, h⟩ := gf_bd_ok h
      refine gw_callVv (K := R_Model) (As := []) (rest := []) C hW (fun _ h => Or.inr h) hl.1 gm_Model_findTrain (gc_Model_findTrain l F o_t0 d12 _) gk_452 gk_453 gk_454 o_t0 (by decide) rfl rfl rfl ⟨Nat.le_of_ble_eq_true rfl, Nat.le_of_ble_eq_true rfl⟩ ⟨Nat.zero_le _, Nat.zero_le _⟩ rfl rfl (Nat.le_of_ble_eq_true rfl) gd_Model_error_36 (fun H locs hW => ?_)
      refine lv_aload_n hx hb gd_Model_error_39 rfl (lv_at hl 0 rfl) ?_
      refine gw_getl (k := 14) (ref := R_Model) C hW o_t0 (by decide) rfl gi_Model rfl (by decide) rfl rfl gk_433 gd_Model_error_40 ?_
      refine lv_aload_n hx hb gd_Model_error_43 rfl (lv_at hl 0 rfl) ?_
      refine gw_getl (k := 13) (ref := R_Model) C hW o_t0 (by decide) rfl gi_Model rfl (by decide) rfl rfl gk_432 gd_Model_error_44 ?_
      obtain ⟨a15, u13, d14, h⟩ := gf_cl_ok h
      refine gw_callSl (As := [.long (u11.2.1 t0 14), .long (u11.2.1 t0 13)]) (rest := []) C hW (fun _ h => Or.inr h) hl.1 gm_Model_gcd (gc_Model_gcd l F  d14 _) gk_457 gk_458 rfl rfl ⟨Nat.le_of_ble_eq_true rfl, Nat.le_of_ble_eq_true rfl⟩ ⟨Nat.zero_le _, Nat.zero_le _⟩ rfl rfl (Nat.le_of_ble_eq_true rfl) gd_Model_error_47 (fun H locs hW => ?_)
      refine lv_lstore_n (lv' := [(2, .long a15), (0, .ref (hs t0)), (1, .int x1)]) hx hb gd_Model_error_50 rfl hl (by decide) rfl (fun ls hl => ?_)
      refine lv_iload_n hx hb gd_Model_error_51 rfl (lv_at hl 2 rfl) ?_
      refine lv_if_ne (tgt := 64) hx hb gd_Model_error_52 (by decide) (fun c16 => ?_) (fun c16 => ?_)
      · have h := gf_f c16 h
        refine lv_aload_n hx hb gd_Model_error_64 rfl (lv_at hl 1 rfl) ?_
        refine gw_getl (k := 14) (ref := R_Model) C hW o_t0 (by decide) rfl gi_Model rfl (by decide) rfl rfl gk_433 gd_Model_error_65 ?_
        refine lv_lload_n hx hb gd_Model_error_68 rfl (lv_at hl 0 rfl) ?_
        obtain ⟨g17, h⟩ := gf_if_ok h
        refine lv_ldiv hx hb gd_Model_error_69 g17 ?_
        exact gx_Model_error_b70 F C hr hk  u13 ((u13.2.1 t0 14) / a15)  hW (lv_sub hl [] rfl) h
      · have h := gf_t c16 h
        refine lv_aload_n hx hb gd_Model_error_55 rfl (lv_at hl 1 rfl) ?_
        refine gw_getl (k := 13) (ref := R_Model) C hW o_t0 (by decide) rfl gi_Model rfl (by decide) rfl rfl gk_432 gd_Model_error_56 ?_
        refine lv_lload_n hx hb gd_Model_error_59 rfl (lv_at hl 0 rfl) ?_
        obtain ⟨g18, h⟩ := gf_if_ok h
        refine lv_ldiv hx hb gd_Model_error_60 g18 ?_
        refine lv_goto (tgt := 70) hx hb gd_Model_error_61 (by decide) ?_
        exact gx_Model_error_b70 F C hr hk  u13 ((u13.2.1 t0 13) / a15)  hW (lv_sub hl [] rfl) h
    · have h := gf_t c10 h
      refine lv_aload_n hx hb gd_Model_error_28 rfl (lv_at hl 0 rfl) ?_
      refine lv_iconst (v := 2) hx hb gd_Model_error_29 (by decide) ?_
      obtain ⟨a21, u19, d20, h⟩ := gf_cl_ok h
      refine gw_callVi (K := R_Model) (As := [.int (2 : Int32)]) (rest := []) C hW (fun _ h => Or.inr h) hl.1 gm_Model_fail (gc_Model_fail l F o_t0 d20 _) gk_385 gk_386 gk_387 o_t0 (by decide) rfl rfl rfl ⟨Nat.le_of_ble_eq_true rfl, Nat.le_of_ble_eq_true rfl⟩ ⟨Nat.zero_le _, Nat.zero_le _⟩ rfl rfl (Nat.le_of_ble_eq_true rfl) gd_Model_error_30 (fun H locs hW => ?_)
      refine lv_i2l hx hb gd_Model_error_33 rfl ?_
      obtain rfl := Option.some.inj h
      exact gw_lret C hW hr hk gd_Model_error_34
  · have h := gf_t c6 h
    refine lv_aload_n hx hb gd_Model_error_12 rfl (lv_at hl 0 rfl) ?_
    refine lv_iconst (v := 1) hx hb gd_Model_error_13 (by decide) ?_
    obtain ⟨a24, u22, d23, h⟩ := gf_cl_ok h
    refine gw_callVi (K := R_Model) (As := [.int (1 : Int32)]) (rest := []) C hW (fun _ h => Or.inr h) hl.1 gm_Model_fail (gc_Model_fail l F o_t0 d23 _) gk_385 gk_386 gk_387 o_t0 (by decide) rfl rfl rfl ⟨Nat.le_of_ble_eq_true rfl, Nat.le_of_ble_eq_true rfl⟩ ⟨Nat.zero_le _, Nat.zero_le _⟩ rfl rfl (Nat.le_of_ble_eq_true rfl) gd_Model_error_14 (fun H locs hW => ?_)
    refine lv_i2l hx hb gd_Model_error_17 rfl ?_
    obtain rfl := Option.some.inj h
    exact gw_lret C hW hr hk gd_Model_error_18

set_option maxRecDepth 20000 in
theorem gc_Model_error (l : Launch) {D : va_G} {cA : Nat → ClassId} {hs : Nat → Nat} {z : gw_Sh} (F : Nat) {u : gw_St} {r0 : (Int64 × gw_St)} {t0 : Nat} {x1 : Int32} (o_t0 : gw_ok z t0 9) (h : gf_Model_error F z u t0 x1 = some r0) (sz : Nat) : gw_Ml l gy_Model_error gb_Model_error 4 (some .long) gr_Model_error [.ref (hs t0), .int x1] D cA hs z u sz r0 := by
  refine gw_enter (by decide) (Nat.le_of_ble_eq_true rfl) ?_
  intro p e s m below meth c ls hsz C hW hr hk _ hl
  subst hsz
  exact gx_Model_error_b0 F C hr hk u t0 x1 o_t0 hW (lv_sub hl [0, 1] rfl) h
