-- GearDeskModel.back()Z
def gy_Model_back : MethodName := ⟨R_Model, "back", "()Z"⟩
abbrev gb_Model_back : ByteArray := prog_11_method_74_code
theorem gk_655 : Cond.code gy_Model_back gb_Model_back 5 (some .boolean) ∈ gt_T := gt_m8 (List.mem_of_getElem? (i := 6) rfl) rfl
def gr_Model_back : Room := gw_rm 5 162
theorem gm_Model_back : gw_Mth gy_Model_back gb_Model_back 5 (some .boolean) 0 := ⟨gk_655, gk_377, ⟨by decide +kernel, by decide +kernel⟩, by decide +kernel⟩
theorem gd_Model_back_0 : decode gb_Model_back 0 = .ok (.aload_n 0, 1) := by decide +kernel
theorem gd_Model_back_1 : decode gb_Model_back 1 = .ok (.iconst 0, 1) := by decide +kernel
theorem gd_Model_back_2 : decode gb_Model_back 2 = .ok (.putfield 112, 3) := by decide +kernel
theorem gd_Model_back_5 : decode gb_Model_back 5 = .ok (.iconst 0, 1) := by decide +kernel
theorem gd_Model_back_6 : decode gb_Model_back 6 = .ok (.istore_n 1, 1) := by decide +kernel
theorem gd_Model_back_7 : decode gb_Model_back 7 = .ok (.iconst 1, 1) := by decide +kernel
theorem gd_Model_back_8 : decode gb_Model_back 8 = .ok (.istore_n 2, 1) := by decide +kernel
theorem gd_Model_back_9 : decode gb_Model_back 9 = .ok (.aload_n 0, 1) := by decide +kernel
theorem gd_Model_back_10 : decode gb_Model_back 10 = .ok (.iconst 0, 1) := by decide +kernel
theorem gd_Model_back_11 : decode gb_Model_back 11 = .ok (.lconst 1, 1) := by decide +kernel
theorem gd_Model_back_12 : decode gb_Model_back 12 = .ok (.invokevirtual 293, 3) := by decide +kernel
theorem gd_Model_back_15 : decode gb_Model_back 15 = .ok (.aload_n 0, 1) := by decide +kernel
theorem gd_Model_back_16 : decode gb_Model_back 16 = .ok (.iconst 1, 1) := by decide +kernel
theorem gd_Model_back_17 : decode gb_Model_back 17 = .ok (.lconst 0, 1) := by decide +kernel
theorem gd_Model_back_18 : decode gb_Model_back 18 = .ok (.invokevirtual 293, 3) := by decide +kernel
theorem gd_Model_back_21 : decode gb_Model_back 21 = .ok (.iconst 0, 1) := by decide +kernel
theorem gd_Model_back_22 : decode gb_Model_back 22 = .ok (.istore_n 3, 1) := by decide +kernel
theorem gd_Model_back_23 : decode gb_Model_back 23 = .ok (.iload_n 3, 1) := by decide +kernel
theorem gd_Model_back_24 : decode gb_Model_back 24 = .ok (.bipush 12, 2) := by decide +kernel
theorem gd_Model_back_26 : decode gb_Model_back 26 = .ok (.if_icmp .ge 136, 3) := by decide +kernel
theorem gd_Model_back_29 : decode gb_Model_back 29 = .ok (.aload_n 0, 1) := by decide +kernel
theorem gd_Model_back_30 : decode gb_Model_back 30 = .ok (.getfield 39, 3) := by decide +kernel
theorem gd_Model_back_33 : decode gb_Model_back 33 = .ok (.iload_n 3, 1) := by decide +kernel
theorem gd_Model_back_34 : decode gb_Model_back 34 = .ok (.iaload, 1) := by decide +kernel
theorem gd_Model_back_35 : decode gb_Model_back 35 = .ok (.istore 4, 2) := by decide +kernel
theorem gd_Model_back_37 : decode gb_Model_back 37 = .ok (.iload_n 2, 1) := by decide +kernel
theorem gd_Model_back_38 : decode gb_Model_back 38 = .ok (.ifCond .eq 22, 3) := by decide +kernel
theorem gd_Model_back_41 : decode gb_Model_back 41 = .ok (.iload 4, 2) := by decide +kernel
theorem gd_Model_back_43 : decode gb_Model_back 43 = .ok (.ifCond .lt 13, 3) := by decide +kernel
theorem gd_Model_back_46 : decode gb_Model_back 46 = .ok (.aload_n 0, 1) := by decide +kernel
theorem gd_Model_back_47 : decode gb_Model_back 47 = .ok (.getfield 45, 3) := by decide +kernel
theorem gd_Model_back_50 : decode gb_Model_back 50 = .ok (.iload 4, 2) := by decide +kernel
theorem gd_Model_back_52 : decode gb_Model_back 52 = .ok (.baload, 1) := by decide +kernel
theorem gd_Model_back_53 : decode gb_Model_back 53 = .ok (.ifCond .eq 7, 3) := by decide +kernel
theorem gd_Model_back_56 : decode gb_Model_back 56 = .ok (.iconst 1, 1) := by decide +kernel
theorem gd_Model_back_57 : decode gb_Model_back 57 = .ok (.goto 4, 3) := by decide +kernel
theorem gd_Model_back_60 : decode gb_Model_back 60 = .ok (.iconst 0, 1) := by decide +kernel
theorem gd_Model_back_61 : decode gb_Model_back 61 = .ok (.istore_n 2, 1) := by decide +kernel
theorem gd_Model_back_62 : decode gb_Model_back 62 = .ok (.iload_n 2, 1) := by decide +kernel
theorem gd_Model_back_63 : decode gb_Model_back 63 = .ok (.ifCond .eq 93, 3) := by decide +kernel
theorem gd_Model_back_66 : decode gb_Model_back 66 = .ok (.iload 4, 2) := by decide +kernel
theorem gd_Model_back_68 : decode gb_Model_back 68 = .ok (.ifCond .lt 88, 3) := by decide +kernel
theorem gd_Model_back_71 : decode gb_Model_back 71 = .ok (.aload_n 0, 1) := by decide +kernel
theorem gd_Model_back_72 : decode gb_Model_back 72 = .ok (.getfield 49, 3) := by decide +kernel
theorem gd_Model_back_75 : decode gb_Model_back 75 = .ok (.iload 4, 2) := by decide +kernel
theorem gd_Model_back_77 : decode gb_Model_back 77 = .ok (.iaload, 1) := by decide +kernel
theorem gd_Model_back_78 : decode gb_Model_back 78 = .ok (.ifCond .eq 78, 3) := by decide +kernel
theorem gd_Model_back_81 : decode gb_Model_back 81 = .ok (.iconst 1, 1) := by decide +kernel
theorem gd_Model_back_82 : decode gb_Model_back 82 = .ok (.istore_n 1, 1) := by decide +kernel
theorem gd_Model_back_83 : decode gb_Model_back 83 = .ok (.aload_n 0, 1) := by decide +kernel
theorem gd_Model_back_84 : decode gb_Model_back 84 = .ok (.iconst 2, 1) := by decide +kernel
theorem gd_Model_back_85 : decode gb_Model_back 85 = .ok (.aload_n 0, 1) := by decide +kernel
theorem gd_Model_back_86 : decode gb_Model_back 86 = .ok (.getfield 55, 3) := by decide +kernel
theorem gd_Model_back_89 : decode gb_Model_back 89 = .ok (.iload 4, 2) := by decide +kernel
theorem gd_Model_back_91 : decode gb_Model_back 91 = .ok (.invokevirtual 345, 3) := by decide +kernel
theorem gd_Model_back_94 : decode gb_Model_back 94 = .ok (.aload_n 0, 1) := by decide +kernel
theorem gd_Model_back_95 : decode gb_Model_back 95 = .ok (.iconst 4, 1) := by decide +kernel
theorem gd_Model_back_96 : decode gb_Model_back 96 = .ok (.iconst 0, 1) := by decide +kernel
theorem gd_Model_back_97 : decode gb_Model_back 97 = .ok (.invokevirtual 277, 3) := by decide +kernel
theorem gd_Model_back_100 : decode gb_Model_back 100 = .ok (.aload_n 0, 1) := by decide +kernel
theorem gd_Model_back_101 : decode gb_Model_back 101 = .ok (.iconst 5, 1) := by decide +kernel
theorem gd_Model_back_102 : decode gb_Model_back 102 = .ok (.iconst 2, 1) := by decide +kernel
theorem gd_Model_back_103 : decode gb_Model_back 103 = .ok (.invokevirtual 277, 3) := by decide +kernel
theorem gd_Model_back_106 : decode gb_Model_back 106 = .ok (.aload_n 0, 1) := by decide +kernel
theorem gd_Model_back_107 : decode gb_Model_back 107 = .ok (.iconst 4, 1) := by decide +kernel
theorem gd_Model_back_108 : decode gb_Model_back 108 = .ok (.iconst 5, 1) := by decide +kernel
theorem gd_Model_back_109 : decode gb_Model_back 109 = .ok (.invokevirtual 300, 3) := by decide +kernel
theorem gd_Model_back_112 : decode gb_Model_back 112 = .ok (.aload_n 0, 1) := by decide +kernel
theorem gd_Model_back_113 : decode gb_Model_back 113 = .ok (.bipush 14, 2) := by decide +kernel
theorem gd_Model_back_115 : decode gb_Model_back 115 = .ok (.iconst 4, 1) := by decide +kernel
theorem gd_Model_back_116 : decode gb_Model_back 116 = .ok (.invokevirtual 277, 3) := by decide +kernel
theorem gd_Model_back_119 : decode gb_Model_back 119 = .ok (.aload_n 0, 1) := by decide +kernel
theorem gd_Model_back_120 : decode gb_Model_back 120 = .ok (.iconst 2, 1) := by decide +kernel
theorem gd_Model_back_121 : decode gb_Model_back 121 = .ok (.bipush 14, 2) := by decide +kernel
theorem gd_Model_back_123 : decode gb_Model_back 123 = .ok (.invokevirtual 303, 3) := by decide +kernel
theorem gd_Model_back_126 : decode gb_Model_back 126 = .ok (.aload_n 0, 1) := by decide +kernel
theorem gd_Model_back_127 : decode gb_Model_back 127 = .ok (.iconst 3, 1) := by decide +kernel
theorem gd_Model_back_128 : decode gb_Model_back 128 = .ok (.iconst 0, 1) := by decide +kernel
theorem gd_Model_back_129 : decode gb_Model_back 129 = .ok (.iconst 2, 1) := by decide +kernel
theorem gd_Model_back_130 : decode gb_Model_back 130 = .ok (.invokevirtual 355, 3) := by decide +kernel
theorem gd_Model_back_133 : decode gb_Model_back 133 = .ok (.aload_n 0, 1) := by decide +kernel
theorem gd_Model_back_134 : decode gb_Model_back 134 = .ok (.iconst 0, 1) := by decide +kernel
theorem gd_Model_back_135 : decode gb_Model_back 135 = .ok (.iconst 3, 1) := by decide +kernel
theorem gd_Model_back_136 : decode gb_Model_back 136 = .ok (.invokevirtual 277, 3) := by decide +kernel
theorem gd_Model_back_139 : decode gb_Model_back 139 = .ok (.aload_n 0, 1) := by decide +kernel
theorem gd_Model_back_140 : decode gb_Model_back 140 = .ok (.iconst 5, 1) := by decide +kernel
theorem gd_Model_back_141 : decode gb_Model_back 141 = .ok (.aload_n 0, 1) := by decide +kernel
theorem gd_Model_back_142 : decode gb_Model_back 142 = .ok (.getfield 52, 3) := by decide +kernel
theorem gd_Model_back_145 : decode gb_Model_back 145 = .ok (.iload 4, 2) := by decide +kernel
theorem gd_Model_back_147 : decode gb_Model_back 147 = .ok (.invokevirtual 345, 3) := by decide +kernel
theorem gd_Model_back_150 : decode gb_Model_back 150 = .ok (.aload_n 0, 1) := by decide +kernel
theorem gd_Model_back_151 : decode gb_Model_back 151 = .ok (.iconst 1, 1) := by decide +kernel
theorem gd_Model_back_152 : decode gb_Model_back 152 = .ok (.iconst 5, 1) := by decide +kernel
theorem gd_Model_back_153 : decode gb_Model_back 153 = .ok (.invokevirtual 300, 3) := by decide +kernel
theorem gd_Model_back_156 : decode gb_Model_back 156 = .ok (.iinc 3 1, 3) := by decide +kernel
theorem gd_Model_back_159 : decode gb_Model_back 159 = .ok (.goto (-136), 3) := by decide +kernel
theorem gd_Model_back_162 : decode gb_Model_back 162 = .ok (.iload_n 2, 1) := by decide +kernel
theorem gd_Model_back_163 : decode gb_Model_back 163 = .ok (.ifCond .eq 7, 3) := by decide +kernel
theorem gd_Model_back_166 : decode gb_Model_back 166 = .ok (.iload_n 1, 1) := by decide +kernel
theorem gd_Model_back_167 : decode gb_Model_back 167 = .ok (.ifCond .ne 5, 3) := by decide +kernel
theorem gd_Model_back_170 : decode gb_Model_back 170 = .ok (.iconst 0, 1) := by decide +kernel
theorem gd_Model_back_171 : decode gb_Model_back 171 = .ok (.ireturn, 1) := by decide +kernel
theorem gd_Model_back_172 : decode gb_Model_back 172 = .ok (.aload_n 0, 1) := by decide +kernel
theorem gd_Model_back_173 : decode gb_Model_back 173 = .ok (.iconst 0, 1) := by decide +kernel
theorem gd_Model_back_174 : decode gb_Model_back 174 = .ok (.invokevirtual 323, 3) := by decide +kernel
theorem gd_Model_back_177 : decode gb_Model_back 177 = .ok (.ifCond .ne 11, 3) := by decide +kernel
theorem gd_Model_back_180 : decode gb_Model_back 180 = .ok (.aload_n 0, 1) := by decide +kernel
theorem gd_Model_back_181 : decode gb_Model_back 181 = .ok (.iconst 1, 1) := by decide +kernel
theorem gd_Model_back_182 : decode gb_Model_back 182 = .ok (.invokevirtual 323, 3) := by decide +kernel
theorem gd_Model_back_185 : decode gb_Model_back 185 = .ok (.ifCond .eq 17, 3) := by decide +kernel
theorem gd_Model_back_188 : decode gb_Model_back 188 = .ok (.aload_n 0, 1) := by decide +kernel
theorem gd_Model_back_189 : decode gb_Model_back 189 = .ok (.iconst 1, 1) := by decide +kernel
theorem gd_Model_back_190 : decode gb_Model_back 190 = .ok (.invokevirtual 123, 3) := by decide +kernel
theorem gd_Model_back_193 : decode gb_Model_back 193 = .ok (.ifCond .le 7, 3) := by decide +kernel
theorem gd_Model_back_196 : decode gb_Model_back 196 = .ok (.iconst 1, 1) := by decide +kernel
theorem gd_Model_back_197 : decode gb_Model_back 197 = .ok (.goto 4, 3) := by decide +kernel
theorem gd_Model_back_200 : decode gb_Model_back 200 = .ok (.iconst 0, 1) := by decide +kernel
theorem gd_Model_back_201 : decode gb_Model_back 201 = .ok (.ireturn, 1) := by decide +kernel
theorem gd_Model_back_202 : decode gb_Model_back 202 = .ok (.aload_n 0, 1) := by decide +kernel
theorem gd_Model_back_203 : decode gb_Model_back 203 = .ok (.iconst 0, 1) := by decide +kernel
theorem gd_Model_back_204 : decode gb_Model_back 204 = .ok (.iconst 1, 1) := by decide +kernel
theorem gd_Model_back_205 : decode gb_Model_back 205 = .ok (.invokevirtual 352, 3) := by decide +kernel
theorem gd_Model_back_208 : decode gb_Model_back 208 = .ok (.iconst 1, 1) := by decide +kernel
theorem gd_Model_back_209 : decode gb_Model_back 209 = .ok (.ireturn, 1) := by decide +kernel
def gf_Model_back_b156 (F : Nat) (z : gw_Sh) (rc_23 : gw_St → Nat → Int32 → Int32 → Int32 → Option (Int32 × gw_St)) (u : gw_St) (t0 : Nat) (x1 : Int32) (x2 : Int32) (x3 : Int32) : Option (Int32 × gw_St) :=
  gf_nm (x3 + 1) fun a1 => rc_23 u t0 x1 x2 a1
def gf_Model_back_b61 (F : Nat) (z : gw_Sh) (rc_23 : gw_St → Nat → Int32 → Int32 → Int32 → Option (Int32 × gw_St)) (u : gw_St) (t0 : Nat) (x1 : Int32) (x3 : Int32) (x4 : Int32) (sx0 : Int32) : Option (Int32 × gw_St) :=
  if sx0 = 0 then (gf_Model_back_b156 F z rc_23 u t0 x1 sx0 x3) else (if x4 < 0 then (gf_Model_back_b156 F z rc_23 u t0 x1 sx0 x3) else (gf_nn (u.2.2 t0 29) fun q5 => if (x4 < 0 ∨ z.2.2 q5 ≤ (x4).toNatClampNeg) then none else if (u.1 q5 (x4).toNatClampNeg) = 0 then (gf_Model_back_b156 F z rc_23 u t0 x1 sx0 x3) else (gf_nn (u.2.2 t0 31) fun q9 => (gf_Model_load F z u t0 (2 : Int32) q9 x4).bind fun u11 => (gf_Model_copyWide F z u11 t0 (4 : Int32) (0 : Int32)).bind fun u13 => (gf_Model_copyWide F z u13 t0 (5 : Int32) (2 : Int32)).bind fun u15 => (gf_Model_greatest F z u15 t0 (4 : Int32) (5 : Int32)).bind fun u17 => (gf_Model_copyWide F z u17 t0 (14 : Int32) (4 : Int32)).bind fun u19 => (gf_Model_quotientOf F z u19 t0 (2 : Int32) (14 : Int32)).bind fun u21 => (gf_Model_multiply F z u21 t0 (3 : Int32) (0 : Int32) (2 : Int32)).bind fun u23 => (gf_Model_copyWide F z u23 t0 (0 : Int32) (3 : Int32)).bind fun u25 => gf_nn (u25.2.2 t0 30) fun q27 => (gf_Model_load F z u25 t0 (5 : Int32) q27 x4).bind fun u29 => (gf_Model_greatest F z u29 t0 (1 : Int32) (5 : Int32)).bind fun u31 => gf_Model_back_b156 F z rc_23 u31 t0 1 sx0 x3)))
def gf_Model_back_b60 (F : Nat) (z : gw_Sh) (rc_23 : gw_St → Nat → Int32 → Int32 → Int32 → Option (Int32 × gw_St)) (u : gw_St) (t0 : Nat) (x1 : Int32) (x3 : Int32) (x4 : Int32) : Option (Int32 × gw_St) :=
  gf_Model_back_b61 F z rc_23 u t0 x1 x3 x4 0
def gf_Model_back_b56 (F : Nat) (z : gw_Sh) (rc_23 : gw_St → Nat → Int32 → Int32 → Int32 → Option (Int32 × gw_St)) (u : gw_St) (t0 : Nat) (x1 : Int32) (x3 : Int32) (x4 : Int32) : Option (Int32 × gw_St) :=
  gf_Model_back_b61 F z rc_23 u t0 x1 x3 x4 1
def gf_Model_back_b170 (F : Nat) (z : gw_Sh)  (u : gw_St)  : Option (Int32 × gw_St) :=
  if ¬ ((0 : Int32) &&& 1 = (0 : Int32)) then none else some ((0 : Int32), u)
def gf_Model_back_b201 (F : Nat) (z : gw_Sh)  (u : gw_St) (sx0 : Int32) : Option (Int32 × gw_St) :=
  if ¬ (sx0 &&& 1 = sx0) then none else some (sx0, u)
def gf_Model_back_b188 (F : Nat) (z : gw_Sh)  (u : gw_St) (t0 : Nat) : Option (Int32 × gw_St) :=
  gf_cl (gf_Model_fail F z u t0 (1 : Int32)) fun a37 u35 => if a37 ≤ 0 then (gf_Model_back_b201 F z  u35 0) else (gf_Model_back_b201 F z  u35 1)
def gf_Model_back_S23 (F : Nat) (z : gw_Sh)  (rc_23 : gw_St → Nat → Int32 → Int32 → Int32 → Option (Int32 × gw_St)) (u : gw_St) (t0 : Nat) (x1 : Int32) (x2 : Int32) (x3 : Int32) : Option (Int32 × gw_St) :=
  if (12 : Int32) ≤ x3 then (if x2 = 0 then (gf_Model_back_b170 F z  u ) else (if x1 = 0 then (gf_Model_back_b170 F z  u ) else (gf_cl (gf_Model_isLarge F z u t0 (0 : Int32)) fun a44 u42 => if a44 = 0 then (gf_cl (gf_Model_isLarge F z u42 t0 (1 : Int32)) fun a48 u46 => if a48 = 0 then ((gf_Model_tell F z u46 t0 (0 : Int32) (1 : Int32)).bind fun u50 => if ¬ ((1 : Int32) &&& 1 = (1 : Int32)) then none else some ((1 : Int32), u50)) else (gf_Model_back_b188 F z  u46 t0)) else (gf_Model_back_b188 F z  u42 t0)))) else (gf_nn (u.2.2 t0 26) fun q53 => if (x3 < 0 ∨ z.2.2 q53 ≤ (x3).toNatClampNeg) then none else gf_nm (u.1 q53 (x3).toNatClampNeg) fun a56 => if x2 = 0 then (gf_Model_back_b60 F z rc_23 u t0 x1 x3 a56) else (if a56 < 0 then (gf_Model_back_b56 F z rc_23 u t0 x1 x3 a56) else (gf_nn (u.2.2 t0 28) fun q60 => if (a56 < 0 ∨ z.2.2 q60 ≤ (a56).toNatClampNeg) then none else if (u.1 q60 (a56).toNatClampNeg) = 0 then (gf_Model_back_b60 F z rc_23 u t0 x1 x3 a56) else (gf_Model_back_b56 F z rc_23 u t0 x1 x3 a56))))
def gf_Model_back_L23 (F : Nat) (z : gw_Sh)  : Nat → gw_St → Nat → Int32 → Int32 → Int32 → Option (Int32 × gw_St)
  | 0 => fun _ _ _ _ _ => none
  | n + 1 => fun u t0 x1 x2 x3 => gf_Model_back_S23 F z  (gf_Model_back_L23 F z  n) u t0 x1 x2 x3
def gf_Model_back_b0 (F : Nat) (z : gw_Sh)  (u : gw_St) (t0 : Nat) : Option (Int32 × gw_St) :=
  gf_nm (gw_wi u t0 0 (0 : Int32)) fun u64 => (gf_Model_setWide F z u64 t0 (0 : Int32) (1 : Int64)).bind fun u66 => (gf_Model_setWide F z u66 t0 (1 : Int32) (0 : Int64)).bind fun u68 => gf_Model_back_L23 F z  F u68 t0 0 1 0
def gf_Model_back (F : Nat) (z : gw_Sh) (u : gw_St) (t0 : Nat) : Option (Int32 × gw_St) := gf_Model_back_b0 F z  u t0
set_option maxHeartbeats 4000000 in
set_option maxRecDepth 20000 in
theorem gx_Model_back_b156 {p : Program} {l : Launch} {e : Env} {s : State} {m : MethodId} {args : Array Value} {below : List Frame} {meth : Method} {c : Code} {D : va_G} {cA : Nat → ClassId} {hs : Nat → Nat} {z : gw_Sh} (F : Nat) {r0 : (Int32 × gw_St)} (C : gw_Cx p s m args c gb_Model_back 5 R_Model D cA) (hr : meth.sig.returnType = (some .boolean)) (hk : meth.locks = false) {rc_23 : gw_St → Nat → Int32 → Int32 → Int32 → Option (Int32 × gw_St)} (k_23 : ∀ (u : gw_St) (t0 : Nat) (x1 : Int32) (x2 : Int32) (x3 : Int32) (H : Heap) (locs : List Loc) (ls : Array Slot), gw_ok z t0 9 → gw_Wx D cA hs z s u H locs → lv_has ls 5 [(0, .ref (hs t0)), (1, .int x1), (2, .int x2), (3, .int x3)] → rc_23 u t0 x1 x2 x3 = some r0 → gw_Gi p l e gr_Model_back s m args below meth c D cA hs z r0 H locs ls 23 []) (u : gw_St) (t0 : Nat) (x1 : Int32) (x2 : Int32) (x3 : Int32) (o_t0 : gw_ok z t0 9) {H : Heap} {locs : List Loc} {ls : Array Slot} (hW : gw_Wx D cA hs z s u H locs) (hl : lv_has ls 5 [(0, .ref (hs t0)), (1, .int x1), (2, .int x2), (3, .int x3)]) (h : gf_Model_back_b156 F z rc_23  u t0 x1 x2 x3 = some r0) : gw_Gi p l e gr_Model_back s m args below meth c D cA hs z r0 H locs ls 156 [] := by
  obtain ⟨hx, hb, hml, hown, hts, hK⟩ := id C
  unfold gf_Model_back_b156 at h
  obtain ⟨a1, e2⟩ : ∃ y : Int32, y = x3 + 1 := ⟨_, rfl⟩
  have h := gf_nm_ok e2 h
  refine lv_iinc (v := a1) (lv' := [(3, .int a1), (0, .ref (hs t0)), (1, .int x1), (2, .int x2)]) hx hb gd_Model_back_156 hl (k := 3) rfl (by rw [e2]; rfl) (by decide) rfl (fun ls hl => ?_)
  refine lv_goto (tgt := 23) hx hb gd_Model_back_159 (by decide) ?_
  exact k_23 u t0 x1 x2 a1 _ _ _ o_t0 hW (lv_sub hl [1, 2, 3, 0] rfl) h

set_option maxHeartbeats 4000000 in
set_option maxRecDepth 20000 in
theorem gx_Model_back_b61 {p : Program} {l : Launch} {e : Env} {s : State} {m : MethodId} {args : Array Value} {below : List Frame} {meth : Method} {c : Code} {D : va_G} {cA : Nat → ClassId} {hs : Nat → Nat} {z : gw_Sh} (F : Nat) {r0 : (Int32 × gw_St)} (C : gw_Cx p s m args c gb_Model_back 5 R_Model D cA) (hr : meth.sig.returnType = (some .boolean)) (hk : meth.locks = false) {rc_23 : gw_St → Nat → Int32 → Int32 → Int32 → Option (Int32 × gw_St)} (k_23 : ∀ (u : gw_St) (t0 : Nat) (x1 : Int32) (x2 : Int32) (x3 : Int32) (H : Heap) (locs : List Loc) (ls : Array Slot), gw_ok z t0 9 → gw_Wx D cA hs z s u H locs → lv_has ls 5 [(0, .ref (hs t0)), (1, .int x1), (2, .int x2), (3, .int x3)] → rc_23 u t0 x1 x2 x3 = some r0 → gw_Gi p l e gr_Model_back s m args below meth c D cA hs z r0 H locs ls 23 []) (u : gw_St) (t0 : Nat) (x1 : Int32) (x3 : Int32) (x4 : Int32) (sx0 : Int32) (o_t0 : gw_ok z t0 9) {H : Heap} {locs : List Loc} {ls : Array Slot} (hW : gw_Wx D cA hs z s u H locs) (hl : lv_has ls 5 [(0, .ref (hs t0)), (1, .int x1), (3, .int x3), (4, .int x4)]) (h : gf_Model_back_b61 F z rc_23  u t0 x1 x3 x4 sx0 = some r0) : gw_Gi p l e gr_Model_back s m args below meth c D cA hs z r0 H locs ls 61 [.int sx0] := by
  obtain ⟨hx, hb, hml, hown, hts, hK⟩ := id C
  unfold gf_Model_back_b61 at h
  refine lv_istore_n (lv' := [(2, .int sx0), (0, .ref (hs t0)), (1, .int x1), (3, .int x3), (4, .int x4)]) hx hb gd_Model_back_61 rfl hl (by decide) rfl (fun ls hl => ?_)
  refine lv_iload_n hx hb gd_Model_back_62 rfl (lv_at hl 0 rfl) ?_
  refine lv_if_eq (tgt := 156) hx hb gd_Model_back_63 (by decide) (fun c3 => ?_) (fun c3 => ?_)
  · have h := gf_t c3 h
    exact gx_Model_back_b156 F C hr hk k_23 u t0 x1 sx0 x3 o_t0 hW (lv_sub hl [1, 2, 0, 3] rfl) h
  · have h := gf_f c3 h
    refine lv_iload hx hb gd_Model_back_66 (lv_at hl 4 rfl) ?_
    refine lv_if_lt (tgt := 156) hx hb gd_Model_back_68 (by decide) (fun c4 => ?_) (fun c4 => ?_)
    · have h := gf_t c4 h
      exact gx_Model_back_b156 F C hr hk k_23 u t0 x1 sx0 x3 o_t0 hW (lv_sub hl [1, 2, 0, 3] rfl) h
    · have h := gf_f c4 h
      refine lv_aload_n hx hb gd_Model_back_71 rfl (lv_at hl 1 rfl) ?_
      obtain ⟨q5, e6, h⟩ := gf_nn_ok h
      refine gw_getr (k := 29) (ty := 10) (ref := R_Model) C hW o_t0 (by decide) rfl gi_Model rfl (by decide) rfl rfl gk_618 gd_Model_back_72 e6 ?_
      have o_q5 := hW.ref (d := 10) o_t0 e6 rfl
      refine lv_iload hx hb gd_Model_back_75 (lv_at hl 4 rfl) ?_
      obtain ⟨g7, h⟩ := gf_if_ok h
      refine gw_iald C hW o_q5 g7 gd_Model_back_77 ?_
      refine lv_if_eq (tgt := 156) hx hb gd_Model_back_78 (by decide) (fun c8 => ?_) (fun c8 => ?_)
      · have h := gf_t c8 h
        exact gx_Model_back_b156 F C hr hk k_23 u t0 x1 sx0 x3 o_t0 hW (lv_sub hl [1, 2, 0, 3] rfl) h
      · have h := gf_f c8 h
        refine lv_iconst (v := 1) hx hb gd_Model_back_81 (by decide) ?_
        refine lv_istore_n (lv' := [(1, .int 1), (2, .int sx0), (0, .ref (hs t0)), (3, .int x3), (4, .int x4)]) hx hb gd_Model_back_82 rfl hl (by decide) rfl (fun ls hl => ?_)
        refine lv_aload_n hx hb gd_Model_back_83 rfl (lv_at hl 2 rfl) ?_
        refine lv_iconst (v := 2) hx hb gd_Model_back_84 (by decide) ?_
        refine lv_aload_n hx hb gd_Model_back_85 rfl (lv_at hl 2 rfl) ?_
        obtain ⟨q9, e10, h⟩ := gf_nn_ok h
        refine gw_getr (k := 31) (ty := 10) (ref := R_Model) C hW o_t0 (by decide) rfl gi_Model rfl (by decide) rfl rfl gk_617 gd_Model_back_86 e10 ?_
        have o_q9 := hW.ref (d := 10) o_t0 e10 rfl
        refine lv_iload hx hb gd_Model_back_89 (lv_at hl 4 rfl) ?_
        obtain ⟨u11, d12, h⟩ := gf_bd_ok h
        refine gw_callVv (K := R_Model) (As := [.int (2 : Int32), .ref (hs q9), .int x4]) (rest := []) C hW (fun _ h => Or.inr h) hl.1 gm_Model_load (gc_Model_load l F o_t0 o_q9 d12 _) gk_647 gk_648 gk_649 o_t0 (by decide) rfl rfl rfl ⟨Nat.le_of_ble_eq_true rfl, Nat.le_of_ble_eq_true rfl⟩ ⟨Nat.zero_le _, Nat.zero_le _⟩ rfl rfl (Nat.le_of_ble_eq_true rfl) gd_Model_back_91 (fun H locs hW => ?_)
        refine lv_aload_n hx hb gd_Model_back_94 rfl (lv_at hl 2 rfl) ?_
        refine lv_iconst (v := 4) hx hb gd_Model_back_95 (by decide) ?_
        refine lv_iconst (v := 0) hx hb gd_Model_back_96 (by decide) ?_
        obtain ⟨u13, d14, h⟩ := gf_bd_ok h
        refine gw_callVv (K := R_Model) (As := [.int (4 : Int32), .int (0 : Int32)]) (rest := []) C hW (fun _ h => Or.inr h) hl.1 gm_Model_copyWide (gc_Model_copyWide l F o_t0 d14 _) gk_566 gk_567 gk_568 o_t0 (by decide) rfl rfl rfl ⟨Nat.le_of_ble_eq_true rfl, Nat.le_of_ble_eq_true rfl⟩ ⟨Nat.zero_le _, Nat.zero_le _⟩ rfl rfl (Nat.le_of_ble_eq_true rfl) gd_Model_back_97 (fun H locs hW => ?_)
        refine lv_aload_n hx hb gd_Model_back_100 rfl (lv_at hl 2 rfl) ?_
        refine lv_iconst (v := 5) hx hb gd_Model_back_101 (by decide) ?_
        refine lv_iconst (v := 2) hx hb gd_Model_back_102 (by decide) ?_
        obtain ⟨u15, d16, h⟩ := gf_bd_ok h
        refine gw_callVv (K := R_Model) (As := [.int (5 : Int32), .int (2 : Int32)]) (rest := []) C hW (fun _ h => Or.inr h) hl.1 gm_Model_copyWide (gc_Model_copyWide l F o_t0 d16 _) gk_566 gk_567 gk_568 o_t0 (by decide) rfl rfl rfl ⟨Nat.le_of_ble_eq_true rfl, Nat.le_of_ble_eq_true rfl⟩ ⟨Nat.zero_le _, Nat.zero_le _⟩ rfl rfl (Nat.le_of_ble_eq_true rfl) gd_Model_back_103 (fun H locs hW => ?_)
        refine lv_aload_n hx hb gd_Model_back_106 rfl (lv_at hl 2 rfl) ?_
        refine lv_iconst (v := 4) hx hb gd_Model_back_107 (by decide) ?_
        refine lv_iconst (v := 5) hx hb gd_Model_back_108 (by decide) ?_
        obtain ⟨u17, d18, h⟩ := gf_bd_ok h
        refine gw_callVv (K := R_Model) (As := [.int (4 : Int32), .int (5 : Int32)]) (rest := []) C hW (fun _ h => Or.inr h) hl.1 gm_Model_greatest (gc_Model_greatest l F o_t0 d18 _) gk_578 gk_579 gk_580 o_t0 (by decide) rfl rfl rfl ⟨Nat.le_of_ble_eq_true rfl, Nat.le_of_ble_eq_true rfl⟩ ⟨Nat.zero_le _, Nat.zero_le _⟩ rfl rfl (Nat.le_of_ble_eq_true rfl) gd_Model_back_109 (fun H locs hW => ?_)
        refine lv_aload_n hx hb gd_Model_back_112 rfl (lv_at hl 2 rfl) ?_
        refine lv_bipush (v := 14) hx hb gd_Model_back_113 (by decide) ?_
        refine lv_iconst (v := 4) hx hb gd_Model_back_115 (by decide) ?_
        obtain ⟨u19, d20, h⟩ := gf_bd_ok h
        refine gw_callVv (K := R_Model) (As := [.int (14 : Int32), .int (4 : Int32)]) (rest := []) C hW (fun _ h => Or.inr h) hl.1 gm_Model_copyWide (gc_Model_copyWide l F o_t0 d20 _) gk_566 gk_567 gk_568 o_t0 (by decide) rfl rfl rfl ⟨Nat.le_of_ble_eq_true rfl, Nat.le_of_ble_eq_true rfl⟩ ⟨Nat.zero_le _, Nat.zero_le _⟩ rfl rfl (Nat.le_of_ble_eq_true rfl) gd_Model_back_116 (fun H locs hW => ?_)
        refine lv_aload_n hx hb gd_Model_back_119 rfl (lv_at hl 2 rfl) ?_
        refine lv_iconst (v := 2) hx hb gd_Model_back_120 (by decide) ?_
        refine lv_bipush (v := 14) hx hb gd_Model_back_121 (by decide) ?_
        obtain ⟨u21, d22, h⟩ := gf_bd_ok h
        refine gw_callVv (K := R_Model) (As := [.int (2 : Int32), .int (14 : Int32)]) (rest := []) C hW (fun _ h => Or.inr h) hl.1 gm_Model_quotientOf (gc_Model_quotientOf l F o_t0 d22 _) gk_581 gk_582 gk_583 o_t0 (by decide) rfl rfl rfl ⟨Nat.le_of_ble_eq_true rfl, Nat.le_of_ble_eq_true rfl⟩ ⟨Nat.zero_le _, Nat.zero_le _⟩ rfl rfl (Nat.le_of_ble_eq_true rfl) gd_Model_back_123 (fun H locs hW => ?_)
        refine lv_aload_n hx hb gd_Model_back_126 rfl (lv_at hl 2 rfl) ?_
        refine lv_iconst (v := 3) hx hb gd_Model_back_127 (by decide) ?_
        refine lv_iconst (v := 0) hx hb gd_Model_back_128 (by decide) ?_
        refine lv_iconst (v := 2) hx hb gd_Model_back_129 (by decide) ?_
        obtain ⟨u23, d24, h⟩ := gf_bd_ok h
        refine gw_callVv (K := R_Model) (As := [.int (3 : Int32), .int (0 : Int32), .int (2 : Int32)]) (rest := []) C hW (fun _ h => Or.inr h) hl.1 gm_Model_multiply (gc_Model_multiply l F o_t0 d24 _) gk_651 gk_652 gk_653 o_t0 (by decide) rfl rfl rfl ⟨Nat.le_of_ble_eq_true rfl, Nat.le_of_ble_eq_true rfl⟩ ⟨Nat.zero_le _, Nat.zero_le _⟩ rfl rfl (Nat.le_of_ble_eq_true rfl) gd_Model_back_130 (fun H locs hW => ?_)
        refine lv_aload_n hx hb gd_Model_back_133 rfl (lv_at hl 2 rfl) ?_
        refine lv_iconst (v := 0) hx hb gd_Model_back_134 (by decide) ?_
        refine lv_iconst (v := 3) hx hb gd_Model_back_135 (by decide) ?_
        obtain ⟨u25, d26, h⟩ := gf_bd_ok h
        refine gw_callVv (K := R_Model) (As := [.int (0 : Int32), .int (3 : Int32)]) (rest := []) C hW (fun _ h => Or.inr h) hl.1 gm_Model_copyWide (gc_Model_copyWide l F o_t0 d26 _) gk_566 gk_567 gk_568 o_t0 (by decide) rfl rfl rfl ⟨Nat.le_of_ble_eq_true rfl, Nat.le_of_ble_eq_true rfl⟩ ⟨Nat.zero_le _, Nat.zero_le _⟩ rfl rfl (Nat.le_of_ble_eq_true rfl) gd_Model_back_136 (fun H locs hW => ?_)
        refine lv_aload_n hx hb gd_Model_back_139 rfl (lv_at hl 2 rfl) ?_
        refine lv_iconst (v := 5) hx hb gd_Model_back_140 (by decide) ?_
        refine lv_aload_n hx hb gd_Model_back_141 rfl (lv_at hl 2 rfl) ?_
        obtain ⟨q27, e28, h⟩ := gf_nn_ok h
        refine gw_getr (k := 30) (ty := 10) (ref := R_Model) C hW o_t0 (by decide) rfl gi_Model rfl (by decide) rfl rfl gk_616 gd_Model_back_142 e28 ?_
        have o_q27 := hW.ref (d := 10) o_t0 e28 rfl
        refine lv_iload hx hb gd_Model_back_145 (lv_at hl 4 rfl) ?_
        obtain ⟨u29, d30, h⟩ := gf_bd_ok h
        refine gw_callVv (K := R_Model) (As := [.int (5 : Int32), .ref (hs q27), .int x4]) (rest := []) C hW (fun _ h => Or.inr h) hl.1 gm_Model_load (gc_Model_load l F o_t0 o_q27 d30 _) gk_647 gk_648 gk_649 o_t0 (by decide) rfl rfl rfl ⟨Nat.le_of_ble_eq_true rfl, Nat.le_of_ble_eq_true rfl⟩ ⟨Nat.zero_le _, Nat.zero_le _⟩ rfl rfl (Nat.le_of_ble_eq_true rfl) gd_Model_back_147 (fun H locs hW => ?_)
        refine lv_aload_n hx hb gd_Model_back_150 rfl (lv_at hl 2 rfl) ?_
        refine lv_iconst (v := 1) hx hb gd_Model_back_151 (by decide) ?_
        refine lv_iconst (v := 5) hx hb gd_Model_back_152 (by decide) ?_
        obtain ⟨u31, d32, h⟩ := gf_bd_ok h
        refine gw_callVv (K := R_Model) (As := [.int (1 : Int32), .int (5 : Int32)]) (rest := []) C hW (fun _ h => Or.inr h) hl.1 gm_Model_greatest (gc_Model_greatest l F o_t0 d32 _) gk_578 gk_579 gk_580 o_t0 (by decide) rfl rfl rfl ⟨Nat.le_of_ble_eq_true rfl, Nat.le_of_ble_eq_true rfl⟩ ⟨Nat.zero_le _, Nat.zero_le _⟩ rfl rfl (Nat.le_of_ble_eq_true rfl) gd_Model_back_153 (fun H locs hW => ?_)
        exact gx_Model_back_b156 F C hr hk k_23 u31 t0 1 sx0 x3 o_t0 hW (lv_sub hl [2, 0, 1, 3] rfl) h

set_option maxHeartbeats 4000000 in
set_option maxRecDepth 20000 in
theorem gx_Model_back_b60 {p : Program} {l : Launch} {e : Env} {s : State} {m : MethodId} {args : Array Value} {below : List Frame} {meth : Method} {c : Code} {D : va_G} {cA : Nat → ClassId} {hs : Nat → Nat} {z : gw_Sh} (F : Nat) {r0 : (Int32 × gw_St)} (C : gw_Cx p s m args c gb_Model_back 5 R_Model D cA) (hr : meth.sig.returnType = (some .boolean)) (hk : meth.locks = false) {rc_23 : gw_St → Nat → Int32 → Int32 → Int32 → Option (Int32 × gw_St)} (k_23 : ∀ (u : gw_St) (t0 : Nat) (x1 : Int32) (x2 : Int32) (x3 : Int32) (H : Heap) (locs : List Loc) (ls : Array Slot), gw_ok z t0 9 → gw_Wx D cA hs z s u H locs → lv_has ls 5 [(0, .ref (hs t0)), (1, .int x1), (2, .int x2), (3, .int x3)] → rc_23 u t0 x1 x2 x3 = some r0 → gw_Gi p l e gr_Model_back s m args below meth c D cA hs z r0 H locs ls 23 []) (u : gw_St) (t0 : Nat) (x1 : Int32) (x3 : Int32) (x4 : Int32) (o_t0 : gw_ok z t0 9) {H : Heap} {locs : List Loc} {ls : Array Slot} (hW : gw_Wx D cA hs z s u H locs) (hl : lv_has ls 5 [(0, .ref (hs t0)), (1, .int x1), (3, .int x3), (4, .int x4)]) (h : gf_Model_back_b60 F z rc_23  u t0 x1 x3 x4 = some r0) : gw_Gi p l e gr_Model_back s m args below meth c D cA hs z r0 H locs ls 60 [] := by
  obtain ⟨hx, hb, hml, hown, hts, hK⟩ := id C
  unfold gf_Model_back_b60 at h
  refine lv_iconst (v := 0) hx hb gd_Model_back_60 (by decide) ?_
  exact gx_Model_back_b61 F C hr hk k_23 u t0 x1 x3 x4 0 o_t0 hW (lv_sub hl [0, 1, 2, 3] rfl) h

set_option maxHeartbeats 4000000 in
set_option maxRecDepth 20000 in
theorem gx_Model_back_b56 {p : Program} {l : Launch} {e : Env} {s : State} {m : MethodId} {args : Array Value} {below : List Frame} {meth : Method} {c : Code} {D : va_G} {cA : Nat → ClassId} {hs : Nat → Nat} {z : gw_Sh} (F : Nat) {r0 : (Int32 × gw_St)} (C : gw_Cx p s m args c gb_Model_back 5 R_Model D cA) (hr : meth.sig.returnType = (some .boolean)) (hk : meth.locks = false) {rc_23 : gw_St → Nat → Int32 → Int32 → Int32 → Option (Int32 × gw_St)} (k_23 : ∀ (u : gw_St) (t0 : Nat) (x1 : Int32) (x2 : Int32) (x3 : Int32) (H : Heap) (locs : List Loc) (ls : Array Slot), gw_ok z t0 9 → gw_Wx D cA hs z s u H locs → lv_has ls 5 [(0, .ref (hs t0)), (1, .int x1), (2, .int x2), (3, .int x3)] → rc_23 u t0 x1 x2 x3 = some r0 → gw_Gi p l e gr_Model_back s m args below meth c D cA hs z r0 H locs ls 23 []) (u : gw_St) (t0 : Nat) (x1 : Int32) (x3 : Int32) (x4 : Int32) (o_t0 : gw_ok z t0 9) {H : Heap} {locs : List Loc} {ls : Array Slot} (hW : gw_Wx D cA hs z s u H locs) (hl : lv_has ls 5 [(0, .ref (hs t0)), (1, .int x1), (3, .int x3), (4, .int x4)]) (h : gf_Model_back_b56 F z rc_23  u t0 x1 x3 x4 = some r0) : gw_Gi p l e gr_Model_back s m args below meth c D cA hs z r0 H locs ls 56 [] := by
  obtain ⟨hx, hb, hml, hown, hts, hK⟩ := id C
  unfold gf_Model_back_b56 at h
  refine lv_iconst (v := 1) hx hb gd_Model_back_56 (by decide) ?_
  refine lv_goto (tgt := 61) hx hb gd_Model_back_57 (by decide) ?_
  exact gx_Model_back_b61 F C hr hk k_23 u t0 x1 x3 x4 1 o_t0 hW (lv_sub hl [0, 1, 2, 3] rfl) h

set_option maxHeartbeats 4000000 in
set_option maxRecDepth 20000 in
theorem gx_Model_back_b170 {p : Program} {l : Launch} {e : Env} {s : State} {m : MethodId} {args : Array Value} {below : List Frame} {meth : Method} {c : Code} {D : va_G} {cA : Nat → ClassId} {hs : Nat → Nat} {z : gw_Sh} (F : Nat) {r0 : (Int32 × gw_St)} (C : gw_Cx p s m args c gb_Model_back 5 R_Model D cA) (hr : meth.sig.returnType = (some .boolean)) (hk : meth.locks = false) (u : gw_St)   {H : Heap} {locs : List Loc} {ls : Array Slot} (hW : gw_Wx D cA hs z s u H locs) (hl : lv_has ls 5 []) (h : gf_Model_back_b170 F z   u  = some r0) : gw_Gi p l e gr_Model_back s m args below meth c D cA hs z r0 H locs ls 170 [] := by
  obtain ⟨hx, hb, hml, hown, hts, hK⟩ := id C
  unfold gf_Model_back_b170 at h
  refine lv_iconst (v := 0) hx hb gd_Model_back_170 (by decide) ?_
  obtain ⟨g33, h⟩ := gf_if_ok h
  obtain rfl := Option.some.inj h
  exact gw_zret C hW hr (Decidable.not_not.mp g33) hk gd_Model_back_171

set_option maxHeartbeats 4000000 in
set_option maxRecDepth 20000 in
theorem gx_Model_back_b201 {p : Program} {l : Launch} {e : Env} {s : State} {m : MethodId} {args : Array Value} {below : List Frame} {meth : Method} {c : Code} {D : va_G} {cA : Nat → ClassId} {hs : Nat → Nat} {z : gw_Sh} (F : Nat) {r0 : (Int32 × gw_St)} (C : gw_Cx p s m args c gb_Model_back 5 R_Model D cA) (hr : meth.sig.returnType = (some .boolean)) (hk : meth.locks = false) (u : gw_St) (sx0 : Int32)  {H : Heap} {locs : List Loc} {ls : Array Slot} (hW : gw_Wx D cA hs z s u H locs) (hl : lv_has ls 5 []) (h : gf_Model_back_b201 F z   u sx0 = some r0) : gw_Gi p l e gr_Model_back s m args below meth c D cA hs z r0 H locs ls 201 [.int sx0] := by
  obtain ⟨hx, hb, hml, hown, hts, hK⟩ := id C
  unfold gf_Model_back_b201 at h
  obtain ⟨g34, h⟩ := gf_if_ok h
  obtain rfl := Option.some.inj h
  exact gw_zret C hW hr (Decidable.not_not.mp g34) hk gd_Model_back_201

set_option maxHeartbeats 4000000 in
set_option maxRecDepth 20000 in
theorem gx_Model_back_b188 {p : Program} {l : Launch} {e : Env} {s : State} {m : MethodId} {args : Array Value} {below : List Frame} {meth : Method} {c : Code} {D : va_G} {cA : Nat → ClassId} {hs : Nat → Nat} {z : gw_Sh} (F : Nat) {r0 : (Int32 × gw_St)} (C : gw_Cx p s m args c gb_Model_back 5 R_Model D cA) (hr : meth.sig.returnType = (some .boolean)) (hk : meth.locks = false) (u : gw_St) (t0 : Nat) (o_t0 : gw_ok z t0 9) {H : Heap} {locs : List Loc} {ls : Array Slot} (hW : gw_Wx D cA hs z s u H locs) (hl : lv_has ls 5 [(0, .ref (hs t0))]) (h : gf_Model_back_b188 F z   u t0 = some r0) : gw_Gi p l e gr_Model_back s m args below meth c D cA hs z r0 H locs ls 188 [] := by
  obtain ⟨hx, hb, hml, hown, hts, hK⟩ := id C
  unfold gf_Model_back_b188 at h
  refine lv_aload_n hx hb gd_Model_back_188 rfl (lv_at hl 0 rfl) ?_
  refine lv_iconst (v := 1) hx hb gd_Model_back_189 (by decide) ?_
  obtain ⟨a37, u35, d36, h⟩ := gf_cl_ok h
  refine gw_callVi (K := R_Model) (As := [.int (1 : Int32)]) (rest := []) C hW (fun _ h => Or.inr h) hl.1 gm_Model_fail (gc_Model_fail l F o_t0 d36 _) gk_385 gk_386 gk_387 o_t0 (by decide) rfl rfl rfl ⟨Nat.le_of_ble_eq_true rfl, Nat.le_of_ble_eq_true rfl⟩ ⟨Nat.zero_le _, Nat.zero_le _⟩ rfl rfl (Nat.le_of_ble_eq_true rfl) gd_Model_back_190 (fun H locs hW => ?_)
  refine lv_if_le (tgt := 200) hx hb gd_Model_back_193 (by decide) (fun c38 => ?_) (fun c38 => ?_)
  · have h := gf_t c38 h
    refine lv_iconst (v := 0) hx hb gd_Model_back_200 (by decide) ?_
    exact gx_Model_back_b201 F C hr hk  u35 0  hW (lv_sub hl [] rfl) h
  · have h := gf_f c38 h
    refine lv_iconst (v := 1) hx hb gd_Model_back_196 (by decide) ?_
    refine lv_goto (tgt := 201) hx hb gd_Model_back_197 (by decide) ?_
    exact gx_Model_back_b201 F C hr hk  u35 1  hW (lv_sub hl [] rfl) h

set_option maxHeartbeats 4000000 in
set_option maxRecDepth 20000 in
theorem gx_Model_back_S23 {p : Program} {l : Launch} {e : Env} {s : State} {m : MethodId} {args : Array Value} {below : List Frame} {meth : Method} {c : Code} {D : va_G} {cA : Nat → ClassId} {hs : Nat → Nat} {z : gw_Sh} (F : Nat) {r0 : (Int32 × gw_St)} (C : gw_Cx p s m args c gb_Model_back 5 R_Model D cA) (hr : meth.sig.returnType = (some .boolean)) (hk : meth.locks = false) {rc_23 : gw_St → Nat → Int32 → Int32 → Int32 → Option (Int32 × gw_St)} (k_23 : ∀ (u : gw_St) (t0 : Nat) (x1 : Int32) (x2 : Int32) (x3 : Int32) (H : Heap) (locs : List Loc) (ls : Array Slot), gw_ok z t0 9 → gw_Wx D cA hs z s u H locs → lv_has ls 5 [(0, .ref (hs t0)), (1, .int x1), (2, .int x2), (3, .int x3)] → rc_23 u t0 x1 x2 x3 = some r0 → gw_Gi p l e gr_Model_back s m args below meth c D cA hs z r0 H locs ls 23 []) (u : gw_St) (t0 : Nat) (x1 : Int32) (x2 : Int32) (x3 : Int32) (o_t0 : gw_ok z t0 9) {H : Heap} {locs : List Loc} {ls : Array Slot} (hW : gw_Wx D cA hs z s u H locs) (hl : lv_has ls 5 [(0, .ref (hs t0)), (1, .int x1), (2, .int x2), (3, .int x3)]) (h : gf_Model_back_S23 F z  rc_23 u t0 x1 x2 x3 = some r0) : gw_Gi p l e gr_Model_back s m args below meth c D cA hs z r0 H locs ls 23 [] := by
  obtain ⟨hx, hb, hml, hown, hts, hK⟩ := id C
  unfold gf_Model_back_S23 at h
  refine lv_iload_n hx hb gd_Model_back_23 rfl (lv_at hl 3 rfl) ?_
  refine lv_bipush (v := 12) hx hb gd_Model_back_24 (by decide) ?_
  refine lv_icmp_ge (tgt := 162) hx hb gd_Model_back_26 (by decide) (fun c39 => ?_) (fun c39 => ?_)
  · have h := gf_t c39 h
    refine lv_iload_n hx hb gd_Model_back_162 rfl (lv_at hl 2 rfl) ?_
    refine lv_if_eq (tgt := 170) hx hb gd_Model_back_163 (by decide) (fun c40 => ?_) (fun c40 => ?_)
    · have h := gf_t c40 h
      exact gx_Model_back_b170 F C hr hk  u   hW (lv_sub hl [] rfl) h
    · have h := gf_f c40 h
      refine lv_iload_n hx hb gd_Model_back_166 rfl (lv_at hl 1 rfl) ?_
      refine lv_if_ne (tgt := 172) hx hb gd_Model_back_167 (by decide) (fun c41 => ?_) (fun c41 => ?_)
      · have h := gf_f c41 h
        refine lv_aload_n hx hb gd_Model_back_172 rfl (lv_at hl 0 rfl) ?_
        refine lv_iconst (v := 0) hx hb gd_Model_back_173 (by decide) ?_
        obtain ⟨a44, u42, d43, h⟩ := gf_cl_ok h
        refine gw_callVi (K := R_Model) (As := [.int (0 : Int32)]) (rest := []) C hW (fun _ h => Or.inr h) hl.1 gm_Model_isLarge (gc_Model_isLarge l F o_t0 d43 _) gk_604 gk_605 gk_606 o_t0 (by decide) rfl rfl rfl ⟨Nat.le_of_ble_eq_true rfl, Nat.le_of_ble_eq_true rfl⟩ ⟨Nat.zero_le _, Nat.zero_le _⟩ rfl rfl (Nat.le_of_ble_eq_true rfl) gd_Model_back_174 (fun H locs hW => ?_)
        refine lv_if_ne (tgt := 188) hx hb gd_Model_back_177 (by decide) (fun c45 => ?_) (fun c45 => ?_)
        · have h := gf_f c45 h
          exact gx_Model_back_b188 F C hr hk  u42 t0 o_t0 hW (lv_sub hl [0] rfl) h
        · have h := gf_t c45 h
          refine lv_aload_n hx hb gd_Model_back_180 rfl (lv_at hl 0 rfl) ?_
          refine lv_iconst (v := 1) hx hb gd_Model_back_181 (by decide) ?_
          obtain ⟨a48, u46, d47, h⟩ := gf_cl_ok h
          refine gw_callVi (K := R_Model) (As := [.int (1 : Int32)]) (rest := []) C hW (fun _ h => Or.inr h) hl.1 gm_Model_isLarge (gc_Model_isLarge l F o_t0 d47 _) gk_604 gk_605 gk_606 o_t0 (by decide) rfl rfl rfl ⟨Nat.le_of_ble_eq_true rfl, Nat.le_of_ble_eq_true rfl⟩ ⟨Nat.zero_le _, Nat.zero_le _⟩ rfl rfl (Nat.le_of_ble_eq_true rfl) gd_Model_back_182 (fun H locs hW => ?_)
          refine lv_if_eq (tgt := 202) hx hb gd_Model_back_185 (by decide) (fun c49 => ?_) (fun c49 => ?_)
          · have h := gf_t c49 h
            refine lv_aload_n hx hb gd_Model_back_202 rfl (lv_at hl 0 rfl) ?_
            refine lv_iconst (v := 0) hx hb gd_Model_back_203 (by decide) ?_
            refine lv_iconst (v := 1) hx hb gd_Model_back_204 (by decide) ?_
            obtain ⟨u50, d51, h⟩ := gf_bd_ok h
            refine gw_callVv (K := R_Model) (As := [.int (0 : Int32), .int (1 : Int32)]) (rest := []) C hW (fun _ h => Or.inr h) hl.1 gm_Model_tell (gc_Model_tell l F o_t0 d51 _) gk_641 gk_642 gk_643 o_t0 (by decide) rfl rfl rfl ⟨Nat.le_of_ble_eq_true rfl, Nat.le_of_ble_eq_true rfl⟩ ⟨Nat.zero_le _, Nat.zero_le _⟩ rfl rfl (Nat.le_of_ble_eq_true rfl) gd_Model_back_205 (fun H locs hW => ?_)
            refine lv_iconst (v := 1) hx hb gd_Model_back_208 (by decide) ?_
            obtain ⟨g52, h⟩ := gf_if_ok h
            obtain rfl := Option.some.inj h
            exact gw_zret C hW hr (Decidable.not_not.mp g52) hk gd_Model_back_209
          · have h := gf_f c49 h
            exact gx_Model_back_b188 F C hr hk  u46 t0 o_t0 hW (lv_sub hl [0] rfl) h
      · have h := gf_t c41 h
        exact gx_Model_back_b170 F C hr hk  u   hW (lv_sub hl [] rfl) h
  · have h := gf_f c39 h
    refine lv_aload_n hx hb gd_Model_back_29 rfl (lv_at hl 0 rfl) ?_
    obtain ⟨q53, e54, h⟩ := gf_nn_ok h
    refine gw_getr (k := 26) (ty := 10) (ref := R_Model) C hW o_t0 (by decide) rfl gi_Model rfl (by decide) rfl rfl gk_631 gd_Model_back_30 e54 ?_
    have o_q53 := hW.ref (d := 10) o_t0 e54 rfl
    refine lv_iload_n hx hb gd_Model_back_33 rfl (lv_at hl 3 rfl) ?_
    obtain ⟨g55, h⟩ := gf_if_ok h
    refine gw_iald C hW o_q53 g55 gd_Model_back_34 ?_
    refine lv_topi (fun a56 e57 => ?_)
    have h := gf_nm_ok e57 h
    refine lv_istore (lv' := [(4, .int a56), (0, .ref (hs t0)), (1, .int x1), (2, .int x2), (3, .int x3)]) hx hb gd_Model_back_35 hl (by decide) rfl (fun ls hl => ?_)
    refine lv_iload_n hx hb gd_Model_back_37 rfl (lv_at hl 3 rfl) ?_
    refine lv_if_eq (tgt := 60) hx hb gd_Model_back_38 (by decide) (fun c58 => ?_) (fun c58 => ?_)
    · have h := gf_t c58 h
      exact gx_Model_back_b60 F C hr hk k_23 u t0 x1 x3 a56 o_t0 hW (lv_sub hl [1, 2, 4, 0] rfl) h
    · have h := gf_f c58 h
      refine lv_iload hx hb gd_Model_back_41 (lv_at hl 0 rfl) ?_
      refine lv_if_lt (tgt := 56) hx hb gd_Model_back_43 (by decide) (fun c59 => ?_) (fun c59 => ?_)
      · have h := gf_t c59 h
        exact gx_Model_back_b56 F C hr hk k_23 u t0 x1 x3 a56 o_t0 hW (lv_sub hl [1, 2, 4, 0] rfl) h
      · have h := gf_f c59 h
        refine lv_aload_n hx hb gd_Model_back_46 rfl (lv_at hl 1 rfl) ?_
        obtain ⟨q60, e61, h⟩ := gf_nn_ok h
        refine gw_getr (k := 28) (ty := 12) (ref := R_Model) C hW o_t0 (by decide) rfl gi_Model rfl (by decide) rfl rfl gk_463 gd_Model_back_47 e61 ?_
        have o_q60 := hW.ref (d := 12) o_t0 e61 rfl
        refine lv_iload hx hb gd_Model_back_50 (lv_at hl 0 rfl) ?_
        obtain ⟨g62, h⟩ := gf_if_ok h
        refine gw_zald C hW o_q60 g62 gd_Model_back_52 ?_
        refine lv_if_eq (tgt := 60) hx hb gd_Model_back_53 (by decide) (fun c63 => ?_) (fun c63 => ?_)
        · have h := gf_t c63 h
          exact gx_Model_back_b60 F C hr hk k_23 u t0 x1 x3 a56 o_t0 hW (lv_sub hl [1, 2, 4, 0] rfl) h
        · have h := gf_f c63 h
          exact gx_Model_back_b56 F C hr hk k_23 u t0 x1 x3 a56 o_t0 hW (lv_sub hl [1, 2, 4, 0] rfl) h
set_option maxHeartbeats 4000000 in
set_option maxRecDepth 20000 in
theorem gx_Model_back_L23 {p : Program} {l : Launch} {e : Env} {s : State} {m : MethodId} {args : Array Value} {below : List Frame} {meth : Method} {c : Code} {D : va_G} {cA : Nat → ClassId} {hs : Nat → Nat} {z : gw_Sh} (F : Nat) {r0 : (Int32 × gw_St)} (C : gw_Cx p s m args c gb_Model_back 5 R_Model D cA) (hr : meth.sig.returnType = (some .boolean)) (hk : meth.locks = false) : ∀ (n : Nat), ∀ (u : gw_St) (t0 : Nat) (x1 : Int32) (x2 : Int32) (x3 : Int32) (H : Heap) (locs : List Loc) (ls : Array Slot), gw_ok z t0 9 → gw_Wx D cA hs z s u H locs → lv_has ls 5 [(0, .ref (hs t0)), (1, .int x1), (2, .int x2), (3, .int x3)] → gf_Model_back_L23 F z  n u t0 x1 x2 x3 = some r0 → gw_Gi p l e gr_Model_back s m args below meth c D cA hs z r0 H locs ls 23 [] := by
  intro n
  induction n with
  | zero =>
    intro u t0 x1 x2 x3 H locs ls o_t0 hW hl h
    cases h
  | succ n ih =>
    intro u t0 x1 x2 x3 H locs ls o_t0 hW hl h
    exact gx_Model_back_S23 F C hr hk  ih u t0 x1 x2 x3 o_t0 hW hl h

set_option maxHeartbeats 4000000 in
set_option maxRecDepth 20000 in
theorem gx_Model_back_b0 {p : Program} {l : Launch} {e : Env} {s : State} {m : MethodId} {args : Array Value} {below : List Frame} {meth : Method} {c : Code} {D : va_G} {cA : Nat → ClassId} {hs : Nat → Nat} {z : gw_Sh} (F : Nat) {r0 : (Int32 × gw_St)} (C : gw_Cx p s m args c gb_Model_back 5 R_Model D cA) (hr : meth.sig.returnType = (some .boolean)) (hk : meth.locks = false) (u : gw_St) (t0 : Nat) (o_t0 : gw_ok z t0 9) {H : Heap} {locs : List Loc} {ls : Array Slot} (hW : gw_Wx D cA hs z s u H locs) (hl : lv_has ls 5 [(0, .ref (hs t0))]) (h : gf_Model_back_b0 F z   u t0 = some r0) : gw_Gi p l e gr_Model_back s m args below meth c D cA hs z r0 H locs ls 0 [] := by
  obtain ⟨hx, hb, hml, hown, hts, hK⟩ := id C
  unfold gf_Model_back_b0 at h
  refine lv_aload_n hx hb gd_Model_back_0 rfl (lv_at hl 0 rfl) ?_
  refine lv_iconst (v := 0) hx hb gd_Model_back_1 (by decide) ?_
  refine gw_puti (k := 0) (ref := R_Model) (fty := .int) C hW o_t0 (by decide) rfl gi_Model rfl (by decide) rfl rfl gk_376 tf_Model tf_Model_ok nm_Model rfl rfl rfl rfl gd_Model_back_2 (fun u64 H locs e65 hW => ?_)
  have h := gf_nm_ok e65 h
  refine lv_iconst (v := 0) hx hb gd_Model_back_5 (by decide) ?_
  refine lv_istore_n (lv' := [(1, .int 0), (0, .ref (hs t0))]) hx hb gd_Model_back_6 rfl hl (by decide) rfl (fun ls hl => ?_)
  refine lv_iconst (v := 1) hx hb gd_Model_back_7 (by decide) ?_
  refine lv_istore_n (lv' := [(2, .int 1), (1, .int 0), (0, .ref (hs t0))]) hx hb gd_Model_back_8 rfl hl (by decide) rfl (fun ls hl => ?_)
  refine lv_aload_n hx hb gd_Model_back_9 rfl (lv_at hl 2 rfl) ?_
  refine lv_iconst (v := 0) hx hb gd_Model_back_10 (by decide) ?_
  refine lv_lconst (v := 1) hx hb gd_Model_back_11 (by decide) ?_
  obtain ⟨u66, d67, h⟩ := gf_bd_ok h
  refine gw_callVv (K := R_Model) (As := [.int (0 : Int32), .long (1 : Int64)]) (rest := []) C hW (fun _ h => Or.inr h) hl.1 gm_Model_setWide (gc_Model_setWide l F o_t0 d67 _) gk_570 gk_571 gk_572 o_t0 (by decide) rfl rfl rfl ⟨Nat.le_of_ble_eq_true rfl, Nat.le_of_ble_eq_true rfl⟩ ⟨Nat.zero_le _, Nat.zero_le _⟩ rfl rfl (Nat.le_of_ble_eq_true rfl) gd_Model_back_12 (fun H locs hW => ?_)
  refine lv_aload_n hx hb gd_Model_back_15 rfl (lv_at hl 2 rfl) ?_
  refine lv_iconst (v := 1) hx hb gd_Model_back_16 (by decide) ?_
  refine lv_lconst (v := 0) hx hb gd_Model_back_17 (by decide) ?_
  obtain ⟨u68, d69, h⟩ := gf_bd_ok h
  refine gw_callVv (K := R_Model) (As := [.int (1 : Int32), .long (0 : Int64)]) (rest := []) C hW (fun _ h => Or.inr h) hl.1 gm_Model_setWide (gc_Model_setWide l F o_t0 d69 _) gk_570 gk_571 gk_572 o_t0 (by decide) rfl rfl rfl ⟨Nat.le_of_ble_eq_true rfl, Nat.le_of_ble_eq_true rfl⟩ ⟨Nat.zero_le _, Nat.zero_le _⟩ rfl rfl (Nat.le_of_ble_eq_true rfl) gd_Model_back_18 (fun H locs hW => ?_)
  refine lv_iconst (v := 0) hx hb gd_Model_back_21 (by decide) ?_
  refine lv_istore_n (lv' := [(3, .int 0), (2, .int 1), (1, .int 0), (0, .ref (hs t0))]) hx hb gd_Model_back_22 rfl hl (by decide) rfl (fun ls hl => ?_)
  exact gx_Model_back_L23 F C hr hk  F u68 t0 0 1 0 _ _ _ o_t0 hW (lv_sub hl [3, 2, 1, 0] rfl) h

set_option maxRecDepth 20000 in
theorem gc_Model_back (l : Launch) {D : va_G} {cA : Nat → ClassId} {hs : Nat → Nat} {z : gw_Sh} (F : Nat) {u : gw_St} {r0 : (Int32 × gw_St)} {t0 : Nat} (o_t0 : gw_ok z t0 9) (h : gf_Model_back F z u t0 = some r0) (sz : Nat) : gw_Mi l gy_Model_back gb_Model_back 5 (some .boolean) gr_Model_back [.ref (hs t0)] D cA hs z u sz r0 := by
  refine gw_enter (by decide) (Nat.le_of_ble_eq_true rfl) ?_
  intro p e s m below meth c ls hsz C hW hr hk _ hl
  subst hsz
  exact gx_Model_back_b0 F C hr hk u t0 o_t0 hW (lv_sub hl [0] rfl) h
-- GearDeskModel.result(II)I
def gy_Model_result : MethodName := ⟨R_Model, "result", "(II)I"⟩
abbrev gb_Model_result : ByteArray := prog_11_method_75_code
theorem gk_656 : Cond.code gy_Model_result gb_Model_result 3 (some .int) ∈ gt_T := gt_m8 (List.mem_of_getElem? (i := 10) rfl) rfl
def gr_Model_result : Room := gw_rm 2 86
theorem gm_Model_result : gw_Mth gy_Model_result gb_Model_result 3 (some .int) 2 := ⟨gk_656, gk_377, ⟨by decide +kernel, by decide +kernel⟩, by decide +kernel⟩
theorem gd_Model_result_0 : decode gb_Model_result 0 = .ok (.aload_n 0, 1) := by decide +kernel
theorem gd_Model_result_1 : decode gb_Model_result 1 = .ok (.iconst 0, 1) := by decide +kernel
theorem gd_Model_result_2 : decode gb_Model_result 2 = .ok (.putfield 112, 3) := by decide +kernel
theorem gd_Model_result_5 : decode gb_Model_result 5 = .ok (.iload_n 1, 1) := by decide +kernel
theorem gd_Model_result_6 : decode gb_Model_result 6 = .ok (.iconst 0, 1) := by decide +kernel
theorem gd_Model_result_7 : decode gb_Model_result 7 = .ok (.iconst 1, 1) := by decide +kernel
theorem gd_Model_result_8 : decode gb_Model_result 8 = .ok (.invokestatic 119, 3) := by decide +kernel
theorem gd_Model_result_11 : decode gb_Model_result 11 = .ok (.ifCond .eq 13, 3) := by decide +kernel
theorem gd_Model_result_14 : decode gb_Model_result 14 = .ok (.iload_n 2, 1) := by decide +kernel
theorem gd_Model_result_15 : decode gb_Model_result 15 = .ok (.iconst 0, 1) := by decide +kernel
theorem gd_Model_result_16 : decode gb_Model_result 16 = .ok (.bipush 7, 2) := by decide +kernel
theorem gd_Model_result_18 : decode gb_Model_result 18 = .ok (.invokestatic 119, 3) := by decide +kernel
theorem gd_Model_result_21 : decode gb_Model_result 21 = .ok (.ifCond .ne 9, 3) := by decide +kernel
theorem gd_Model_result_24 : decode gb_Model_result 24 = .ok (.aload_n 0, 1) := by decide +kernel
theorem gd_Model_result_25 : decode gb_Model_result 25 = .ok (.iconst 1, 1) := by decide +kernel
theorem gd_Model_result_26 : decode gb_Model_result 26 = .ok (.invokevirtual 123, 3) := by decide +kernel
theorem gd_Model_result_29 : decode gb_Model_result 29 = .ok (.ireturn, 1) := by decide +kernel
theorem gd_Model_result_30 : decode gb_Model_result 30 = .ok (.iload_n 1, 1) := by decide +kernel
theorem gd_Model_result_31 : decode gb_Model_result 31 = .ok (.ifCond .ne 15, 3) := by decide +kernel
theorem gd_Model_result_34 : decode gb_Model_result 34 = .ok (.aload_n 0, 1) := by decide +kernel
theorem gd_Model_result_35 : decode gb_Model_result 35 = .ok (.getfield 70, 3) := by decide +kernel
theorem gd_Model_result_38 : decode gb_Model_result 38 = .ok (.iconst 0, 1) := by decide +kernel
theorem gd_Model_result_39 : decode gb_Model_result 39 = .ok (.iload_n 2, 1) := by decide +kernel
theorem gd_Model_result_40 : decode gb_Model_result 40 = .ok (.invokestatic 337, 3) := by decide +kernel
theorem gd_Model_result_43 : decode gb_Model_result 43 = .ok (.goto 12, 3) := by decide +kernel
theorem gd_Model_result_46 : decode gb_Model_result 46 = .ok (.aload_n 0, 1) := by decide +kernel
theorem gd_Model_result_47 : decode gb_Model_result 47 = .ok (.getfield 73, 3) := by decide +kernel
theorem gd_Model_result_50 : decode gb_Model_result 50 = .ok (.iconst 0, 1) := by decide +kernel
theorem gd_Model_result_51 : decode gb_Model_result 51 = .ok (.iload_n 2, 1) := by decide +kernel
theorem gd_Model_result_52 : decode gb_Model_result 52 = .ok (.invokestatic 337, 3) := by decide +kernel
theorem gd_Model_result_55 : decode gb_Model_result 55 = .ok (.ireturn, 1) := by decide +kernel
def gf_Model_result_b24 (F : Nat) (z : gw_Sh)  (u : gw_St) (t0 : Nat) : Option (Int32 × gw_St) :=
  gf_cl (gf_Model_fail F z u t0 (1 : Int32)) fun a3 u1 => some (a3, u1)
def gf_Model_result_b55 (F : Nat) (z : gw_Sh)  (u : gw_St) (sx0 : Int32) : Option (Int32 × gw_St) :=
  some (sx0, u)
def gf_Model_result_b0 (F : Nat) (z : gw_Sh)  (u : gw_St) (t0 : Nat) (x1 : Int32) (x2 : Int32) : Option (Int32 × gw_St) :=
  gf_nm (gw_wi u t0 0 (0 : Int32)) fun u4 => gf_cl (gf_Model_within F z u4 x1 (0 : Int32) (1 : Int32)) fun a8 u6 => if a8 = 0 then (gf_Model_result_b24 F z  u6 t0) else (gf_cl (gf_Model_within F z u6 x2 (0 : Int32) (7 : Int32)) fun a12 u10 => if a12 = 0 then (gf_Model_result_b24 F z  u10 t0) else (if x1 = 0 then (gf_nn (u10.2.2 t0 36) fun q20 => gf_cl (gf_Model_word F z u10 q20 (0 : Int32) x2) fun a24 u22 => gf_Model_result_b55 F z  u22 a24) else (gf_nn (u10.2.2 t0 37) fun q15 => gf_cl (gf_Model_word F z u10 q15 (0 : Int32) x2) fun a19 u17 => gf_Model_result_b55 F z  u17 a19)))
def gf_Model_result (F : Nat) (z : gw_Sh) (u : gw_St) (t0 : Nat) (x1 : Int32) (x2 : Int32) : Option (Int32 × gw_St) := gf_Model_result_b0 F z  u t0 x1 x2
set_option maxHeartbeats 4000000 in
set_option maxRecDepth 20000 in
theorem gx_Model_result_b24 {p : Program} {l : Launch} {e : Env} {s : State} {m : MethodId} {args : Array Value} {below : List Frame} {meth : Method} {c : Code} {D : va_G} {cA : Nat → ClassId} {hs : Nat → Nat} {z : gw_Sh} (F : Nat) {r0 : (Int32 × gw_St)} (C : gw_Cx p s m args c gb_Model_result 3 R_Model D cA) (hr : meth.sig.returnType = (some .int)) (hk : meth.locks = false) (u : gw_St) (t0 : Nat) (o_t0 : gw_ok z t0 9) {H : Heap} {locs : List Loc} {ls : Array Slot} (hW : gw_Wx D cA hs z s u H locs) (hl : lv_has ls 3 [(0, .ref (hs t0))]) (h : gf_Model_result_b24 F z   u t0 = some r0) : gw_Gi p l e gr_Model_result s m args below meth c D cA hs z r0 H locs ls 24 [] := by
  obtain ⟨hx, hb, hml, hown, hts, hK⟩ := id C
  unfold gf_Model_result_b24 at h
  refine lv_aload_n hx hb gd_Model_result_24 rfl (lv_at hl 0 rfl) ?_
  refine lv_iconst (v := 1) hx hb gd_Model_result_25 (by decide) ?_
  obtain ⟨a3, u1, d2, h⟩ := gf_cl_ok h
  refine gw_callVi (K := R_Model) (As := [.int (1 : Int32)]) (rest := []) C hW (fun _ h => Or.inr h) hl.1 gm_Model_fail (gc_Model_fail l F o_t0 d2 _) gk_385 gk_386 gk_387 o_t0 (by decide) rfl rfl rfl ⟨Nat.le_of_ble_eq_true rfl, Nat.le_of_ble_eq_true rfl⟩ ⟨Nat.zero_le _, Nat.zero_le _⟩ rfl rfl (Nat.le_of_ble_eq_true rfl) gd_Model_result_26 (fun H locs hW => ?_)
  obtain rfl := Option.some.inj h
  exact gw_iret C hW hr hk gd_Model_result_29

set_option maxHeartbeats 4000000 in
set_option maxRecDepth 20000 in
theorem gx_Model_result_b55 {p : Program} {l : Launch} {e : Env} {s : State} {m : MethodId} {args : Array Value} {below : List Frame} {meth : Method} {c : Code} {D : va_G} {cA : Nat → ClassId} {hs : Nat → Nat} {z : gw_Sh} (F : Nat) {r0 : (Int32 × gw_St)} (C : gw_Cx p s m args c gb_Model_result 3 R_Model D cA) (hr : meth.sig.returnType = (some .int)) (hk : meth.locks = false) (u : gw_St) (sx0 : Int32)  {H : Heap} {locs : List Loc} {ls : Array Slot} (hW : gw_Wx D cA hs z s u H locs) (hl : lv_has ls 3 []) (h : gf_Model_result_b55 F z   u sx0 = some r0) : gw_Gi p l e gr_Model_result s m args below meth c D cA hs z r0 H locs ls 55 [.int sx0] := by
  obtain ⟨hx, hb, hml, hown, hts, hK⟩ := id C
  unfold gf_Model_result_b55 at h
  obtain rfl := Option.some.inj h
  exact gw_iret C hW hr hk gd_Model_result_55

set_option maxHeartbeats 4000000 in
set_option maxRecDepth 20000 in
theorem gx_Model_result_b0 {p : Program} {l : Launch} {e : Env} {s : State} {m : MethodId} {args : Array Value} {below : List Frame} {meth : Method} {c : Code} {D : va_G} {cA : Nat → ClassId} {hs : Nat → Nat} {z : gw_Sh} (F : Nat) {r0 : (Int32 × gw_St)} (C : gw_Cx p s m args c gb_Model_result 3 R_Model D cA) (hr : meth.sig.returnType = (some .int)) (hk : meth.locks = false) (u : gw_St) (t0 : Nat) (x1 : Int32) (x2 : Int32) (o_t0 : gw_ok z t0 9) {H : Heap} {locs : List Loc} {ls : Array Slot} (hW : gw_Wx D cA hs z s u H locs) (hl : lv_has ls 3 [(0, .ref (hs t0)), (1, .int x1), (2, .int x2)]) (h : gf_Model_result_b0 F z   u t0 x1 x2 = some r0) : gw_Gi p l e gr_Model_result s m args below meth c D cA hs z r0 H locs ls 0 [] := by
  obtain ⟨hx, hb, hml, hown, hts, hK⟩ := id C
  unfold gf_Model_result_b0 at h
  refine lv_aload_n hx hb gd_Model_result_0 rfl (lv_at hl 0 rfl) ?_
  refine lv_iconst (v := 0) hx hb gd_Model_result_1 (by decide) ?_
  refine gw_puti (k := 0) (ref := R_Model) (fty := .int) C hW o_t0 (by decide) rfl gi_Model rfl (by decide) rfl rfl gk_376 tf_Model tf_Model_ok nm_Model rfl rfl rfl rfl gd_Model_result_2 (fun u4 H locs e5 hW => ?_)
  have h := gf_nm_ok e5 h
  refine lv_iload_n hx hb gd_Model_result_5 rfl (lv_at hl 1 rfl) ?_
  refine lv_iconst (v := 0) hx hb gd_Model_result_6 (by decide) ?_
  refine lv_iconst (v := 1) hx hb gd_Model_result_7 (by decide) ?_
  obtain ⟨a8, u6, d7, h⟩ := gf_cl_ok h
  refine gw_callSi (As := [.int x1, .int (0 : Int32), .int (1 : Int32)]) (rest := []) C hW (fun _ h => Or.inr h) hl.1 gm_Model_within (gc_Model_within l F  d7 _) gk_398 gk_399 rfl rfl ⟨Nat.le_of_ble_eq_true rfl, Nat.le_of_ble_eq_true rfl⟩ ⟨Nat.zero_le _, Nat.zero_le _⟩ rfl rfl (Nat.le_of_ble_eq_true rfl) gd_Model_result_8 (fun H locs hW => ?_)
  refine lv_if_eq (tgt := 24) hx hb gd_Model_result_11 (by decide) (fun c9 => ?_) (fun c9 => ?_)
  · have h := gf_t c9 h
    exact gx_Model_result_b24 F C hr hk  u6 t0 o_t0 hW (lv_sub hl [0] rfl) h
  · have h := gf_f c9 h
    refine lv_iload_n hx hb gd_Model_result_14 rfl (lv_at hl 2 rfl) ?_
    refine lv_iconst (v := 0) hx hb gd_Model_result_15 (by decide) ?_
    refine lv_bipush (v := 7) hx hb gd_Model_result_16 (by decide) ?_
    obtain ⟨a12, u10, d11, h⟩ := gf_cl_ok h
    refine gw_callSi (As := [.int x2, .int (0 : Int32), .int (7 : Int32)]) (rest := []) C hW (fun _ h => Or.inr h) hl.1 gm_Model_within (gc_Model_within l F  d11 _) gk_398 gk_399 rfl rfl ⟨Nat.le_of_ble_eq_true rfl, Nat.le_of_ble_eq_true rfl⟩ ⟨Nat.zero_le _, Nat.zero_le _⟩ rfl rfl (Nat.le_of_ble_eq_true rfl) gd_Model_result_18 (fun H locs hW => ?_)
    refine lv_if_ne (tgt := 30) hx hb gd_Model_result_21 (by decide) (fun c13 => ?_) (fun c13 => ?_)
    · have h := gf_f c13 h
      refine lv_iload_n hx hb gd_Model_result_30 rfl (lv_at hl 1 rfl) ?_
      refine lv_if_ne (tgt := 46) hx hb gd_Model_result_31 (by decide) (fun c14 => ?_) (fun c14 => ?_)
      · have h := gf_f c14 h
        refine lv_aload_n hx hb gd_Model_result_46 rfl (lv_at hl 0 rfl) ?_
        obtain ⟨q15, e16, h⟩ := gf_nn_ok h
        refine gw_getr (k := 37) (ty := 10) (ref := R_Model) C hW o_t0 (by decide) rfl gi_Model rfl (by decide) rfl rfl gk_636 gd_Model_result_47 e16 ?_
        have o_q15 := hW.ref (d := 10) o_t0 e16 rfl
        refine lv_iconst (v := 0) hx hb gd_Model_result_50 (by decide) ?_
        refine lv_iload_n hx hb gd_Model_result_51 rfl (lv_at hl 2 rfl) ?_
        obtain ⟨a19, u17, d18, h⟩ := gf_cl_ok h
        refine gw_callSi (As := [.ref (hs q15), .int (0 : Int32), .int x2]) (rest := []) C hW (fun _ h => Or.inr h) hl.1 gm_Model_word (gc_Model_word l F o_q15 d18 _) gk_627 gk_628 rfl rfl ⟨Nat.le_of_ble_eq_true rfl, Nat.le_of_ble_eq_true rfl⟩ ⟨Nat.zero_le _, Nat.zero_le _⟩ rfl rfl (Nat.le_of_ble_eq_true rfl) gd_Model_result_52 (fun H locs hW => ?_)
        exact gx_Model_result_b55 F C hr hk  u17 a19  hW (lv_sub hl [] rfl) h
      · have h := gf_t c14 h
        refine lv_aload_n hx hb gd_Model_result_34 rfl (lv_at hl 0 rfl) ?_
        obtain ⟨q20, e21, h⟩ := gf_nn_ok h
        refine gw_getr (k := 36) (ty := 10) (ref := R_Model) C hW o_t0 (by decide) rfl gi_Model rfl (by decide) rfl rfl gk_635 gd_Model_result_35 e21 ?_
        have o_q20 := hW.ref (d := 10) o_t0 e21 rfl
        refine lv_iconst (v := 0) hx hb gd_Model_result_38 (by decide) ?_
        refine lv_iload_n hx hb gd_Model_result_39 rfl (lv_at hl 2 rfl) ?_
        obtain ⟨a24, u22, d23, h⟩ := gf_cl_ok h
        refine gw_callSi (As := [.ref (hs q20), .int (0 : Int32), .int x2]) (rest := []) C hW (fun _ h => Or.inr h) hl.1 gm_Model_word (gc_Model_word l F o_q20 d23 _) gk_627 gk_628 rfl rfl ⟨Nat.le_of_ble_eq_true rfl, Nat.le_of_ble_eq_true rfl⟩ ⟨Nat.zero_le _, Nat.zero_le _⟩ rfl rfl (Nat.le_of_ble_eq_true rfl) gd_Model_result_40 (fun H locs hW => ?_)
        refine lv_goto (tgt := 55) hx hb gd_Model_result_43 (by decide) ?_
        exact gx_Model_result_b55 F C hr hk  u22 a24  hW (lv_sub hl [] rfl) h
    · have h := gf_t c13 h
      exact gx_Model_result_b24 F C hr hk  u10 t0 o_t0 hW (lv_sub hl [0] rfl) h

set_option maxRecDepth 20000 in
theorem gc_Model_result (l : Launch) {D : va_G} {cA : Nat → ClassId} {hs : Nat → Nat} {z : gw_Sh} (F : Nat) {u : gw_St} {r0 : (Int32 × gw_St)} {t0 : Nat} {x1 : Int32} {x2 : Int32} (o_t0 : gw_ok z t0 9) (h : gf_Model_result F z u t0 x1 x2 = some r0) (sz : Nat) : gw_Mi l gy_Model_result gb_Model_result 3 (some .int) gr_Model_result [.ref (hs t0), .int x1, .int x2] D cA hs z u sz r0 := by
  refine gw_enter (by decide) (Nat.le_of_ble_eq_true rfl) ?_
  intro p e s m below meth c ls hsz C hW hr hk _ hl
  subst hsz
  exact gx_Model_result_b0 F C hr hk u t0 x1 x2 o_t0 hW (lv_sub hl [0, 1, 2] rfl) h
-- GearDeskModel.clear()I
def gy_Model_clear : MethodName := ⟨R_Model, "clear", "()I"⟩
abbrev gb_Model_clear : ByteArray := prog_11_method_76_code
theorem gk_657 : Cond.code gy_Model_clear gb_Model_clear 3 (some .int) ∈ gt_T := gt_m8 (List.mem_of_getElem? (i := 14) rfl) rfl
def gr_Model_clear : Room := gw_rm 1 64
theorem gm_Model_clear : gw_Mth gy_Model_clear gb_Model_clear 3 (some .int) 0 := ⟨gk_657, gk_377, ⟨by decide +kernel, by decide +kernel⟩, by decide +kernel⟩
theorem gd_Model_clear_0 : decode gb_Model_clear 0 = .ok (.aload_n 0, 1) := by decide +kernel
theorem gd_Model_clear_1 : decode gb_Model_clear 1 = .ok (.iconst 0, 1) := by decide +kernel
theorem gd_Model_clear_2 : decode gb_Model_clear 2 = .ok (.putfield 112, 3) := by decide +kernel
theorem gd_Model_clear_5 : decode gb_Model_clear 5 = .ok (.aload_n 0, 1) := by decide +kernel
theorem gd_Model_clear_6 : decode gb_Model_clear 6 = .ok (.getfield 217, 3) := by decide +kernel
theorem gd_Model_clear_9 : decode gb_Model_clear 9 = .ok (.istore_n 1, 1) := by decide +kernel
theorem gd_Model_clear_10 : decode gb_Model_clear 10 = .ok (.aload_n 0, 1) := by decide +kernel
theorem gd_Model_clear_11 : decode gb_Model_clear 11 = .ok (.iconst 0, 1) := by decide +kernel
theorem gd_Model_clear_12 : decode gb_Model_clear 12 = .ok (.putfield 217, 3) := by decide +kernel
theorem gd_Model_clear_15 : decode gb_Model_clear 15 = .ok (.aload_n 0, 1) := by decide +kernel
theorem gd_Model_clear_16 : decode gb_Model_clear 16 = .ok (.iconst 0, 1) := by decide +kernel
theorem gd_Model_clear_17 : decode gb_Model_clear 17 = .ok (.putfield 223, 3) := by decide +kernel
theorem gd_Model_clear_20 : decode gb_Model_clear 20 = .ok (.aload_n 0, 1) := by decide +kernel
theorem gd_Model_clear_21 : decode gb_Model_clear 21 = .ok (.iconst (-1), 1) := by decide +kernel
theorem gd_Model_clear_22 : decode gb_Model_clear 22 = .ok (.putfield 20, 3) := by decide +kernel
theorem gd_Model_clear_25 : decode gb_Model_clear 25 = .ok (.iconst 0, 1) := by decide +kernel
theorem gd_Model_clear_26 : decode gb_Model_clear 26 = .ok (.istore_n 2, 1) := by decide +kernel
theorem gd_Model_clear_27 : decode gb_Model_clear 27 = .ok (.iload_n 2, 1) := by decide +kernel
theorem gd_Model_clear_28 : decode gb_Model_clear 28 = .ok (.bipush 12, 2) := by decide +kernel
theorem gd_Model_clear_30 : decode gb_Model_clear 30 = .ok (.if_icmp .ge 16, 3) := by decide +kernel
theorem gd_Model_clear_33 : decode gb_Model_clear 33 = .ok (.aload_n 0, 1) := by decide +kernel
theorem gd_Model_clear_34 : decode gb_Model_clear 34 = .ok (.getfield 39, 3) := by decide +kernel
theorem gd_Model_clear_37 : decode gb_Model_clear 37 = .ok (.iload_n 2, 1) := by decide +kernel
theorem gd_Model_clear_38 : decode gb_Model_clear 38 = .ok (.iconst (-1), 1) := by decide +kernel
theorem gd_Model_clear_39 : decode gb_Model_clear 39 = .ok (.iastore, 1) := by decide +kernel
theorem gd_Model_clear_40 : decode gb_Model_clear 40 = .ok (.iinc 2 1, 3) := by decide +kernel
theorem gd_Model_clear_43 : decode gb_Model_clear 43 = .ok (.goto (-16), 3) := by decide +kernel
theorem gd_Model_clear_46 : decode gb_Model_clear 46 = .ok (.iconst 0, 1) := by decide +kernel
theorem gd_Model_clear_47 : decode gb_Model_clear 47 = .ok (.istore_n 2, 1) := by decide +kernel
theorem gd_Model_clear_48 : decode gb_Model_clear 48 = .ok (.iload_n 2, 1) := by decide +kernel
theorem gd_Model_clear_49 : decode gb_Model_clear 49 = .ok (.bipush 60, 2) := by decide +kernel
theorem gd_Model_clear_51 : decode gb_Model_clear 51 = .ok (.if_icmp .ge 16, 3) := by decide +kernel
theorem gd_Model_clear_54 : decode gb_Model_clear 54 = .ok (.aload_n 0, 1) := by decide +kernel
theorem gd_Model_clear_55 : decode gb_Model_clear 55 = .ok (.getfield 45, 3) := by decide +kernel
theorem gd_Model_clear_58 : decode gb_Model_clear 58 = .ok (.iload_n 2, 1) := by decide +kernel
theorem gd_Model_clear_59 : decode gb_Model_clear 59 = .ok (.iconst 0, 1) := by decide +kernel
theorem gd_Model_clear_60 : decode gb_Model_clear 60 = .ok (.bastore, 1) := by decide +kernel
theorem gd_Model_clear_61 : decode gb_Model_clear 61 = .ok (.iinc 2 1, 3) := by decide +kernel
theorem gd_Model_clear_64 : decode gb_Model_clear 64 = .ok (.goto (-16), 3) := by decide +kernel
theorem gd_Model_clear_67 : decode gb_Model_clear 67 = .ok (.iload_n 1, 1) := by decide +kernel
theorem gd_Model_clear_68 : decode gb_Model_clear 68 = .ok (.ireturn, 1) := by decide +kernel
def gf_Model_clear_S48 (F : Nat) (z : gw_Sh)  (rc_48 : gw_St → Nat → Int32 → Int32 → Option (Int32 × gw_St)) (u : gw_St) (t0 : Nat) (x1 : Int32) (x2 : Int32) : Option (Int32 × gw_St) :=
  if (60 : Int32) ≤ x2 then (some (x1, u)) else (gf_nn (u.2.2 t0 28) fun q2 => if (x2 < 0 ∨ z.2.2 q2 ≤ (x2).toNatClampNeg) then none else gf_nm (gw_wi u q2 (x2).toNatClampNeg (vp_nar .boolean (0 : Int32))) fun u5 => gf_nm (x2 + 1) fun a7 => rc_48 u5 t0 x1 a7)
def gf_Model_clear_L48 (F : Nat) (z : gw_Sh)  : Nat → gw_St → Nat → Int32 → Int32 → Option (Int32 × gw_St)
  | 0 => fun _ _ _ _ => none
  | n + 1 => fun u t0 x1 x2 => gf_Model_clear_S48 F z  (gf_Model_clear_L48 F z  n) u t0 x1 x2
def gf_Model_clear_S27 (F : Nat) (z : gw_Sh)  (rc_27 : gw_St → Nat → Int32 → Int32 → Option (Int32 × gw_St)) (u : gw_St) (t0 : Nat) (x1 : Int32) (x2 : Int32) : Option (Int32 × gw_St) :=
  if (12 : Int32) ≤ x2 then (gf_Model_clear_L48 F z  F u t0 x1 0) else (gf_nn (u.2.2 t0 26) fun q10 => if (x2 < 0 ∨ z.2.2 q10 ≤ (x2).toNatClampNeg) then none else gf_nm (gw_wi u q10 (x2).toNatClampNeg (-1 : Int32)) fun u13 => gf_nm (x2 + 1) fun a15 => rc_27 u13 t0 x1 a15)
def gf_Model_clear_L27 (F : Nat) (z : gw_Sh)  : Nat → gw_St → Nat → Int32 → Int32 → Option (Int32 × gw_St)
  | 0 => fun _ _ _ _ => none
  | n + 1 => fun u t0 x1 x2 => gf_Model_clear_S27 F z  (gf_Model_clear_L27 F z  n) u t0 x1 x2
def gf_Model_clear_b0 (F : Nat) (z : gw_Sh)  (u : gw_St) (t0 : Nat) : Option (Int32 × gw_St) :=
  gf_nm (gw_wi u t0 0 (0 : Int32)) fun u17 => gf_nm (u17.1 t0 18) fun a19 => gf_nm (gw_wi u17 t0 18 (0 : Int32)) fun u21 => gf_nm (gw_wi u21 t0 19 (0 : Int32)) fun u23 => gf_nm (gw_wi u23 t0 20 (-1 : Int32)) fun u25 => gf_Model_clear_L27 F z  F u25 t0 a19 0
def gf_Model_clear (F : Nat) (z : gw_Sh) (u : gw_St) (t0 : Nat) : Option (Int32 × gw_St) := gf_Model_clear_b0 F z  u t0
set_option maxHeartbeats 4000000 in
set_option maxRecDepth 20000 in
theorem gx_Model_clear_S48 {p : Program} {l : Launch} {e : Env} {s : State} {m : MethodId} {args : Array Value} {below : List Frame} {meth : Method} {c : Code} {D : va_G} {cA : Nat → ClassId} {hs : Nat → Nat} {z : gw_Sh} (F : Nat) {r0 : (Int32 × gw_St)} (C : gw_Cx p s m args c gb_Model_clear 3 R_Model D cA) (hr : meth.sig.returnType = (some .int)) (hk : meth.locks = false) {rc_48 : gw_St → Nat → Int32 → Int32 → Option (Int32 × gw_St)} (k_48 : ∀ (u : gw_St) (t0 : Nat) (x1 : Int32) (x2 : Int32) (H : Heap) (locs : List Loc) (ls : Array Slot), gw_ok z t0 9 → gw_Wx D cA hs z s u H locs → lv_has ls 3 [(0, .ref (hs t0)), (1, .int x1), (2, .int x2)] → rc_48 u t0 x1 x2 = some r0 → gw_Gi p l e gr_Model_clear s m args below meth c D cA hs z r0 H locs ls 48 []) (u : gw_St) (t0 : Nat) (x1 : Int32) (x2 : Int32) (o_t0 : gw_ok z t0 9) {H : Heap} {locs : List Loc} {ls : Array Slot} (hW : gw_Wx D cA hs z s u H locs) (hl : lv_has ls 3 [(0, .ref (hs t0)), (1, .int x1), (2, .int x2)]) (h : gf_Model_clear_S48 F z  rc_48 u t0 x1 x2 = some r0) : gw_Gi p l e gr_Model_clear s m args below meth c D cA hs z r0 H locs ls 48 [] := by
  obtain ⟨hx, hb, hml, hown, hts, hK⟩ := id C
  unfold gf_Model_clear_S48 at h
  refine lv_iload_n hx hb gd_Model_clear_48 rfl (lv_at hl 2 rfl) ?_
  refine lv_bipush (v := 60) hx hb gd_Model_clear_49 (by decide) ?_
  refine lv_icmp_ge (tgt := 67) hx hb gd_Model_clear_51 (by decide) (fun c1 => ?_) (fun c1 => ?_)
  · have h := gf_t c1 h
    refine lv_iload_n hx hb gd_Model_clear_67 rfl (lv_at hl 1 rfl) ?_
    obtain rfl := Option.some.inj h
    exact gw_iret C hW hr hk gd_Model_clear_68
  · have h := gf_f c1 h
    refine lv_aload_n hx hb gd_Model_clear_54 rfl (lv_at hl 0 rfl) ?_
    obtain ⟨q2, e3, h⟩ := gf_nn_ok h
    refine gw_getr (k := 28) (ty := 12) (ref := R_Model) C hW o_t0 (by decide) rfl gi_Model rfl (by decide) rfl rfl gk_463 gd_Model_clear_55 e3 ?_
    have o_q2 := hW.ref (d := 12) o_t0 e3 rfl
    refine lv_iload_n hx hb gd_Model_clear_58 rfl (lv_at hl 2 rfl) ?_
    refine lv_iconst (v := 0) hx hb gd_Model_clear_59 (by decide) ?_
    obtain ⟨g4, h⟩ := gf_if_ok h
    refine gw_zast C hW o_q2 g4 gd_Model_clear_60 (fun u5 H locs e6 hW => ?_)
    have h := gf_nm_ok e6 h
    obtain ⟨a7, e8⟩ : ∃ y : Int32, y = x2 + 1 := ⟨_, rfl⟩
    have h := gf_nm_ok e8 h
    refine lv_iinc (v := a7) (lv' := [(2, .int a7), (0, .ref (hs t0)), (1, .int x1)]) hx hb gd_Model_clear_61 hl (k := 2) rfl (by rw [e8]; rfl) (by decide) rfl (fun ls hl => ?_)
    refine lv_goto (tgt := 48) hx hb gd_Model_clear_64 (by decide) ?_
    exact k_48 u5 t0 x1 a7 _ _ _ o_t0 hW (lv_sub hl [1, 2, 0] rfl) h
set_option maxHeartbeats 4000000 in
set_option maxRecDepth 20000 in
theorem gx_Model_clear_L48 {p : Program} {l : Launch} {e : Env} {s : State} {m : MethodId} {args : Array Value} {below : List Frame} {meth : Method} {c : Code} {D : va_G} {cA : Nat → ClassId} {hs : Nat → Nat} {z : gw_Sh} (F : Nat) {r0 : (Int32 × gw_St)} (C : gw_Cx p s m args c gb_Model_clear 3 R_Model D cA) (hr : meth.sig.returnType = (some .int)) (hk : meth.locks = false) : ∀ (n : Nat), ∀ (u : gw_St) (t0 : Nat) (x1 : Int32) (x2 : Int32) (H : Heap) (locs : List Loc) (ls : Array Slot), gw_ok z t0 9 → gw_Wx D cA hs z s u H locs → lv_has ls 3 [(0, .ref (hs t0)), (1, .int x1), (2, .int x2)] → gf_Model_clear_L48 F z  n u t0 x1 x2 = some r0 → gw_Gi p l e gr_Model_clear s m args below meth c D cA hs z r0 H locs ls 48 [] := by
  intro n
  induction n with
  | zero =>
    intro u t0 x1 x2 H locs ls o_t0 hW hl h
    cases h
  | succ n ih =>
    intro u t0 x1 x2 H locs ls o_t0 hW hl h
    exact gx_Model_clear_S48 F C hr hk  ih u t0 x1 x2 o_t0 hW hl h

set_option maxHeartbeats 4000000 in
set_option maxRecDepth 20000 in
theorem gx_Model_clear_S27 {p : Program} {l : Launch} {e : Env} {s : State} {m : MethodId} {args : Array Value} {below : List Frame} {meth : Method} {c : Code} {D : va_G} {cA : Nat → ClassId} {hs : Nat → Nat} {z : gw_Sh} (F : Nat) {r0 : (Int32 × gw_St)} (C : gw_Cx p s m args c gb_Model_clear 3 R_Model D cA) (hr : meth.sig.returnType = (some .int)) (hk : meth.locks = false) {rc_27 : gw_St → Nat → Int32 → Int32 → Option (Int32 × gw_St)} (k_27 : ∀ (u : gw_St) (t0 : Nat) (x1 : Int32) (x2 : Int32) (H : Heap) (locs : List Loc) (ls : Array Slot), gw_ok z t0 9 → gw_Wx D cA hs z s u H locs → lv_has ls 3 [(0, .ref (hs t0)), (1, .int x1), (2, .int x2)] → rc_27 u t0 x1 x2 = some r0 → gw_Gi p l e gr_Model_clear s m args below meth c D cA hs z r0 H locs ls 27 []) (u : gw_St) (t0 : Nat) (x1 : Int32) (x2 : Int32) (o_t0 : gw_ok z t0 9) {H : Heap} {locs : List Loc} {ls : Array Slot} (hW : gw_Wx D cA hs z s u H locs) (hl : lv_has ls 3 [(0, .ref (hs t0)), (1, .int x1), (2, .int x2)]) (h : gf_Model_clear_S27 F z  rc_27 u t0 x1 x2 = some r0) : gw_Gi p l e gr_Model_clear s m args below meth c D cA hs z r0 H locs ls 27 [] := by
  obtain ⟨hx, hb, hml, hown, hts, hK⟩ := id C
  unfold gf_Model_clear_S27 at h
  refine lv_iload_n hx hb gd_Model_clear_27 rfl (lv_at hl 2 rfl) ?_
  refine lv_bipush (v := 12) hx hb gd_Model_clear_28 (by decide) ?_
  refine lv_icmp_ge (tgt := 46) hx hb gd_Model_clear_30 (by decide) (fun c9 => ?_) (fun c9 => ?_)
  · have h := gf_t c9 h
    refine lv_iconst (v := 0) hx hb gd_Model_clear_46 (by decide) ?_
    refine lv_istore_n (lv' := [(2, .int 0), (0, .ref (hs t0)), (1, .int x1)]) hx hb gd_Model_clear_47 rfl hl (by decide) rfl (fun ls hl => ?_)
    exact gx_Model_clear_L48 F C hr hk  F u t0 x1 0 _ _ _ o_t0 hW (lv_sub hl [1, 2, 0] rfl) h
  · have h := gf_f c9 h
    refine lv_aload_n hx hb gd_Model_clear_33 rfl (lv_at hl 0 rfl) ?_
    obtain ⟨q10, e11, h⟩ := gf_nn_ok h
    refine gw_getr (k := 26) (ty := 10) (ref := R_Model) C hW o_t0 (by decide) rfl gi_Model rfl (by decide) rfl rfl gk_631 gd_Model_clear_34 e11 ?_
    have o_q10 := hW.ref (d := 10) o_t0 e11 rfl
    refine lv_iload_n hx hb gd_Model_clear_37 rfl (lv_at hl 2 rfl) ?_
    refine lv_iconst (v := (-1)) hx hb gd_Model_clear_38 (by decide) ?_
    obtain ⟨g12, h⟩ := gf_if_ok h
    refine gw_iast C hW o_q10 g12 gd_Model_clear_39 (fun u13 H locs e14 hW => ?_)
    have h := gf_nm_ok e14 h
    obtain ⟨a15, e16⟩ : ∃ y : Int32, y = x2 + 1 := ⟨_, rfl⟩
    have h := gf_nm_ok e16 h
    refine lv_iinc (v := a15) (lv' := [(2, .int a15), (0, .ref (hs t0)), (1, .int x1)]) hx hb gd_Model_clear_40 hl (k := 2) rfl (by rw [e16]; rfl) (by decide) rfl (fun ls hl => ?_)
    refine lv_goto (tgt := 27) hx hb gd_Model_clear_43 (by decide) ?_
    exact k_27 u13 t0 x1 a15 _ _ _ o_t0 hW (lv_sub hl [1, 2, 0] rfl) h
set_option maxHeartbeats 4000000 in
set_option maxRecDepth 20000 in
theorem gx_Model_clear_L27 {p : Program} {l : Launch} {e : Env} {s : State} {m : MethodId} {args : Array Value} {below : List Frame} {meth : Method} {c : Code} {D : va_G} {cA : Nat → ClassId} {hs : Nat → Nat} {z : gw_Sh} (F : Nat) {r0 : (Int32 × gw_St)} (C : gw_Cx p s m args c gb_Model_clear 3 R_Model D cA) (hr : meth.sig.returnType = (some .int)) (hk : meth.locks = false) : ∀ (n : Nat), ∀ (u : gw_St) (t0 : Nat) (x1 : Int32) (x2 : Int32) (H : Heap) (locs : List Loc) (ls : Array Slot), gw_ok z t0 9 → gw_Wx D cA hs z s u H locs → lv_has ls 3 [(0, .ref (hs t0)), (1, .int x1), (2, .int x2)] → gf_Model_clear_L27 F z  n u t0 x1 x2 = some r0 → gw_Gi p l e gr_Model_clear s m args below meth c D cA hs z r0 H locs ls 27 [] := by
  intro n
  induction n with
  | zero =>
    intro u t0 x1 x2 H locs ls o_t0 hW hl h
    cases h
  | succ n ih =>
    intro u t0 x1 x2 H locs ls o_t0 hW hl h
    exact gx_Model_clear_S27 F C hr hk  ih u t0 x1 x2 o_t0 hW hl h

set_option maxHeartbeats 4000000 in
set_option maxRecDepth 20000 in
theorem gx_Model_clear_b0 {p : Program} {l : Launch} {e : Env} {s : State} {m : MethodId} {args : Array Value} {below : List Frame} {meth : Method} {c : Code} {D : va_G} {cA : Nat → ClassId} {hs : Nat → Nat} {z : gw_Sh} (F : Nat) {r0 : (Int32 × gw_St)} (C : gw_Cx p s m args c gb_Model_clear 3 R_Model D cA) (hr : meth.sig.returnType = (some .int)) (hk : meth.locks = false) (u : gw_St) (t0 : Nat) (o_t0 : gw_ok z t0 9) {H : Heap} {locs : List Loc} {ls : Array Slot} (hW : gw_Wx D cA hs z s u H locs) (hl : lv_has ls 3 [(0, .ref (hs t0))]) (h : gf_Model_clear_b0 F z   u t0 = some r0) : gw_Gi p l e gr_Model_clear s m args below meth c D cA hs z r0 H locs ls 0 [] := by
  obtain ⟨hx, hb, hml, hown, hts, hK⟩ := id C
  unfold gf_Model_clear_b0 at h
  refine lv_aload_n hx hb gd_Model_clear_0 rfl (lv_at hl 0 rfl) ?_
  refine lv_iconst (v := 0) hx hb gd_Model_clear_1 (by decide) ?_
  refine gw_puti (k := 0) (ref := R_Model) (fty := .int) C hW o_t0 (by decide) rfl gi_Model rfl (by decide) rfl rfl gk_376 tf_Model tf_Model_ok nm_Model rfl rfl rfl rfl gd_Model_clear_2 (fun u17 H locs e18 hW => ?_)
  have h := gf_nm_ok e18 h
  refine lv_aload_n hx hb gd_Model_clear_5 rfl (lv_at hl 0 rfl) ?_
  refine gw_geti (k := 18) (ref := R_Model) C hW o_t0 (by decide) rfl gi_Model rfl (by decide) rfl rfl gk_461 gd_Model_clear_6 ?_
  refine lv_topi (fun a19 e20 => ?_)
  have h := gf_nm_ok e20 h
  refine lv_istore_n (lv' := [(1, .int a19), (0, .ref (hs t0))]) hx hb gd_Model_clear_9 rfl hl (by decide) rfl (fun ls hl => ?_)
  refine lv_aload_n hx hb gd_Model_clear_10 rfl (lv_at hl 1 rfl) ?_
  refine lv_iconst (v := 0) hx hb gd_Model_clear_11 (by decide) ?_
  refine gw_puti (k := 18) (ref := R_Model) (fty := .int) C hW o_t0 (by decide) rfl gi_Model rfl (by decide) rfl rfl gk_461 tf_Model tf_Model_ok nm_Model rfl rfl rfl rfl gd_Model_clear_12 (fun u21 H locs e22 hW => ?_)
  have h := gf_nm_ok e22 h
  refine lv_aload_n hx hb gd_Model_clear_15 rfl (lv_at hl 1 rfl) ?_
  refine lv_iconst (v := 0) hx hb gd_Model_clear_16 (by decide) ?_
  refine gw_puti (k := 19) (ref := R_Model) (fty := .int) C hW o_t0 (by decide) rfl gi_Model rfl (by decide) rfl rfl gk_466 tf_Model tf_Model_ok nm_Model rfl rfl rfl rfl gd_Model_clear_17 (fun u23 H locs e24 hW => ?_)
  have h := gf_nm_ok e24 h
  refine lv_aload_n hx hb gd_Model_clear_20 rfl (lv_at hl 1 rfl) ?_
  refine lv_iconst (v := (-1)) hx hb gd_Model_clear_21 (by decide) ?_
  refine gw_puti (k := 20) (ref := R_Model) (fty := .int) C hW o_t0 (by decide) rfl gi_Model rfl (by decide) rfl rfl gk_484 tf_Model tf_Model_ok nm_Model rfl rfl rfl rfl gd_Model_clear_22 (fun u25 H locs e26 hW => ?_)
  have h := gf_nm_ok e26 h
  refine lv_iconst (v := 0) hx hb gd_Model_clear_25 (by decide) ?_
  refine lv_istore_n (lv' := [(2, .int 0), (1, .int a19), (0, .ref (hs t0))]) hx hb gd_Model_clear_26 rfl hl (by decide) rfl (fun ls hl => ?_)
  exact gx_Model_clear_L27 F C hr hk  F u25 t0 a19 0 _ _ _ o_t0 hW (lv_sub hl [2, 1, 0] rfl) h

set_option maxRecDepth 20000 in
theorem gc_Model_clear (l : Launch) {D : va_G} {cA : Nat → ClassId} {hs : Nat → Nat} {z : gw_Sh} (F : Nat) {u : gw_St} {r0 : (Int32 × gw_St)} {t0 : Nat} (o_t0 : gw_ok z t0 9) (h : gf_Model_clear F z u t0 = some r0) (sz : Nat) : gw_Mi l gy_Model_clear gb_Model_clear 3 (some .int) gr_Model_clear [.ref (hs t0)] D cA hs z u sz r0 := by
  refine gw_enter (by decide) (Nat.le_of_ble_eq_true rfl) ?_
  intro p e s m below meth c ls hsz C hW hr hk _ hl
  subst hsz
  exact gx_Model_clear_b0 F C hr hk u t0 o_t0 hW (lv_sub hl [0] rfl) h
-- GearDeskModel.count(I)I
def gy_Model_count : MethodName := ⟨R_Model, "count", "(I)I"⟩
abbrev gb_Model_count : ByteArray := prog_11_method_77_code
theorem gk_658 : Cond.code gy_Model_count gb_Model_count 4 (some .int) ∈ gt_T := gt_m8 (List.mem_of_getElem? (i := 18) rfl) rfl
def gr_Model_count : Room := gw_rm 2 86
theorem gm_Model_count : gw_Mth gy_Model_count gb_Model_count 4 (some .int) 1 := ⟨gk_658, gk_377, ⟨by decide +kernel, by decide +kernel⟩, by decide +kernel⟩
theorem gd_Model_count_0 : decode gb_Model_count 0 = .ok (.aload_n 0, 1) := by decide +kernel
theorem gd_Model_count_1 : decode gb_Model_count 1 = .ok (.iconst 0, 1) := by decide +kernel
theorem gd_Model_count_2 : decode gb_Model_count 2 = .ok (.putfield 112, 3) := by decide +kernel
theorem gd_Model_count_5 : decode gb_Model_count 5 = .ok (.iload_n 1, 1) := by decide +kernel
theorem gd_Model_count_6 : decode gb_Model_count 6 = .ok (.iconst 0, 1) := by decide +kernel
theorem gd_Model_count_7 : decode gb_Model_count 7 = .ok (.iconst 4, 1) := by decide +kernel
theorem gd_Model_count_8 : decode gb_Model_count 8 = .ok (.invokestatic 119, 3) := by decide +kernel
theorem gd_Model_count_11 : decode gb_Model_count 11 = .ok (.ifCond .ne 5, 3) := by decide +kernel
theorem gd_Model_count_14 : decode gb_Model_count 14 = .ok (.iconst (-1), 1) := by decide +kernel
theorem gd_Model_count_15 : decode gb_Model_count 15 = .ok (.ireturn, 1) := by decide +kernel
theorem gd_Model_count_16 : decode gb_Model_count 16 = .ok (.iload_n 1, 1) := by decide +kernel
theorem gd_Model_count_17 : decode gb_Model_count 17 = .ok (.iconst 2, 1) := by decide +kernel
theorem gd_Model_count_18 : decode gb_Model_count 18 = .ok (.if_icmp .ge 19, 3) := by decide +kernel
theorem gd_Model_count_21 : decode gb_Model_count 21 = .ok (.iload_n 1, 1) := by decide +kernel
theorem gd_Model_count_22 : decode gb_Model_count 22 = .ok (.ifCond .ne 10, 3) := by decide +kernel
theorem gd_Model_count_25 : decode gb_Model_count 25 = .ok (.aload_n 0, 1) := by decide +kernel
theorem gd_Model_count_26 : decode gb_Model_count 26 = .ok (.getfield 217, 3) := by decide +kernel
theorem gd_Model_count_29 : decode gb_Model_count 29 = .ok (.goto 7, 3) := by decide +kernel
theorem gd_Model_count_32 : decode gb_Model_count 32 = .ok (.aload_n 0, 1) := by decide +kernel
theorem gd_Model_count_33 : decode gb_Model_count 33 = .ok (.getfield 223, 3) := by decide +kernel
theorem gd_Model_count_36 : decode gb_Model_count 36 = .ok (.ireturn, 1) := by decide +kernel
theorem gd_Model_count_37 : decode gb_Model_count 37 = .ok (.iload_n 1, 1) := by decide +kernel
theorem gd_Model_count_38 : decode gb_Model_count 38 = .ok (.iconst 4, 1) := by decide +kernel
theorem gd_Model_count_39 : decode gb_Model_count 39 = .ok (.if_icmp .ne 19, 3) := by decide +kernel
theorem gd_Model_count_42 : decode gb_Model_count 42 = .ok (.aload_n 0, 1) := by decide +kernel
theorem gd_Model_count_43 : decode gb_Model_count 43 = .ok (.getfield 127, 3) := by decide +kernel
theorem gd_Model_count_46 : decode gb_Model_count 46 = .ok (.ifCond .eq 10, 3) := by decide +kernel
theorem gd_Model_count_49 : decode gb_Model_count 49 = .ok (.aload_n 0, 1) := by decide +kernel
theorem gd_Model_count_50 : decode gb_Model_count 50 = .ok (.getfield 150, 3) := by decide +kernel
theorem gd_Model_count_53 : decode gb_Model_count 53 = .ok (.goto 4, 3) := by decide +kernel
theorem gd_Model_count_56 : decode gb_Model_count 56 = .ok (.iconst 0, 1) := by decide +kernel
theorem gd_Model_count_57 : decode gb_Model_count 57 = .ok (.ireturn, 1) := by decide +kernel
theorem gd_Model_count_58 : decode gb_Model_count 58 = .ok (.iconst 0, 1) := by decide +kernel
theorem gd_Model_count_59 : decode gb_Model_count 59 = .ok (.istore_n 2, 1) := by decide +kernel
theorem gd_Model_count_60 : decode gb_Model_count 60 = .ok (.iconst 0, 1) := by decide +kernel
theorem gd_Model_count_61 : decode gb_Model_count 61 = .ok (.istore_n 3, 1) := by decide +kernel
theorem gd_Model_count_62 : decode gb_Model_count 62 = .ok (.iload_n 3, 1) := by decide +kernel
theorem gd_Model_count_63 : decode gb_Model_count 63 = .ok (.iload_n 1, 1) := by decide +kernel
theorem gd_Model_count_64 : decode gb_Model_count 64 = .ok (.iconst 2, 1) := by decide +kernel
theorem gd_Model_count_65 : decode gb_Model_count 65 = .ok (.if_icmp .ne 8, 3) := by decide +kernel
theorem gd_Model_count_68 : decode gb_Model_count 68 = .ok (.bipush 12, 2) := by decide +kernel
theorem gd_Model_count_70 : decode gb_Model_count 70 = .ok (.goto 7, 3) := by decide +kernel
theorem gd_Model_count_73 : decode gb_Model_count 73 = .ok (.aload_n 0, 1) := by decide +kernel
theorem gd_Model_count_74 : decode gb_Model_count 74 = .ok (.getfield 217, 3) := by decide +kernel
theorem gd_Model_count_77 : decode gb_Model_count 77 = .ok (.if_icmp .ge 43, 3) := by decide +kernel
theorem gd_Model_count_80 : decode gb_Model_count 80 = .ok (.iload_n 2, 1) := by decide +kernel
theorem gd_Model_count_81 : decode gb_Model_count 81 = .ok (.iload_n 1, 1) := by decide +kernel
theorem gd_Model_count_82 : decode gb_Model_count 82 = .ok (.iconst 2, 1) := by decide +kernel
theorem gd_Model_count_83 : decode gb_Model_count 83 = .ok (.if_icmp .ne 15, 3) := by decide +kernel
theorem gd_Model_count_86 : decode gb_Model_count 86 = .ok (.aload_n 0, 1) := by decide +kernel
theorem gd_Model_count_87 : decode gb_Model_count 87 = .ok (.getfield 39, 3) := by decide +kernel
theorem gd_Model_count_90 : decode gb_Model_count 90 = .ok (.iload_n 3, 1) := by decide +kernel
theorem gd_Model_count_91 : decode gb_Model_count 91 = .ok (.iaload, 1) := by decide +kernel
theorem gd_Model_count_92 : decode gb_Model_count 92 = .ok (.ifCond .lt 19, 3) := by decide +kernel
theorem gd_Model_count_95 : decode gb_Model_count 95 = .ok (.goto 12, 3) := by decide +kernel
theorem gd_Model_count_98 : decode gb_Model_count 98 = .ok (.aload_n 0, 1) := by decide +kernel
theorem gd_Model_count_99 : decode gb_Model_count 99 = .ok (.getfield 45, 3) := by decide +kernel
theorem gd_Model_count_102 : decode gb_Model_count 102 = .ok (.iload_n 3, 1) := by decide +kernel
theorem gd_Model_count_103 : decode gb_Model_count 103 = .ok (.baload, 1) := by decide +kernel
theorem gd_Model_count_104 : decode gb_Model_count 104 = .ok (.ifCond .eq 7, 3) := by decide +kernel
theorem gd_Model_count_107 : decode gb_Model_count 107 = .ok (.iconst 1, 1) := by decide +kernel
theorem gd_Model_count_108 : decode gb_Model_count 108 = .ok (.goto 4, 3) := by decide +kernel
theorem gd_Model_count_111 : decode gb_Model_count 111 = .ok (.iconst 0, 1) := by decide +kernel
theorem gd_Model_count_112 : decode gb_Model_count 112 = .ok (.iadd, 1) := by decide +kernel
theorem gd_Model_count_113 : decode gb_Model_count 113 = .ok (.istore_n 2, 1) := by decide +kernel
theorem gd_Model_count_114 : decode gb_Model_count 114 = .ok (.iinc 3 1, 3) := by decide +kernel
theorem gd_Model_count_117 : decode gb_Model_count 117 = .ok (.goto (-55), 3) := by decide +kernel
theorem gd_Model_count_120 : decode gb_Model_count 120 = .ok (.iload_n 2, 1) := by decide +kernel
theorem gd_Model_count_121 : decode gb_Model_count 121 = .ok (.ireturn, 1) := by decide +kernel
def gf_Model_count_b36 (F : Nat) (z : gw_Sh)  (u : gw_St) (sx0 : Int32) : Option (Int32 × gw_St) :=
  some (sx0, u)
def gf_Model_count_b57 (F : Nat) (z : gw_Sh)  (u : gw_St) (sx0 : Int32) : Option (Int32 × gw_St) :=
  some (sx0, u)
def gf_Model_count_b112 (F : Nat) (z : gw_Sh) (rc_62 : gw_St → Nat → Int32 → Int32 → Int32 → Option (Int32 × gw_St)) (u : gw_St) (t0 : Nat) (x1 : Int32) (x3 : Int32) (sx0 : Int32) (sx1 : Int32) : Option (Int32 × gw_St) :=
  gf_nm (sx0 + sx1) fun a1 => gf_nm (x3 + 1) fun a3 => rc_62 u t0 x1 a1 a3
def gf_Model_count_b111 (F : Nat) (z : gw_Sh) (rc_62 : gw_St → Nat → Int32 → Int32 → Int32 → Option (Int32 × gw_St)) (u : gw_St) (t0 : Nat) (x1 : Int32) (x3 : Int32) (sx0 : Int32) : Option (Int32 × gw_St) :=
  gf_Model_count_b112 F z rc_62 u t0 x1 x3 sx0 0
def gf_Model_count_b107 (F : Nat) (z : gw_Sh) (rc_62 : gw_St → Nat → Int32 → Int32 → Int32 → Option (Int32 × gw_St)) (u : gw_St) (t0 : Nat) (x1 : Int32) (x3 : Int32) (sx0 : Int32) : Option (Int32 × gw_St) :=
  gf_Model_count_b112 F z rc_62 u t0 x1 x3 sx0 1
def gf_Model_count_b77 (F : Nat) (z : gw_Sh) (rc_62 : gw_St → Nat → Int32 → Int32 → Int32 → Option (Int32 × gw_St)) (u : gw_St) (t0 : Nat) (x1 : Int32) (x2 : Int32) (x3 : Int32) (sx0 : Int32) (sx1 : Int32) : Option (Int32 × gw_St) :=
  if sx1 ≤ sx0 then (some (x2, u)) else (if x1 = (2 : Int32) then (gf_nn (u.2.2 t0 26) fun q11 => if (x3 < 0 ∨ z.2.2 q11 ≤ (x3).toNatClampNeg) then none else if (u.1 q11 (x3).toNatClampNeg) < 0 then (gf_Model_count_b111 F z rc_62 u t0 x1 x3 x2) else (gf_Model_count_b107 F z rc_62 u t0 x1 x3 x2)) else (gf_nn (u.2.2 t0 28) fun q7 => if (x3 < 0 ∨ z.2.2 q7 ≤ (x3).toNatClampNeg) then none else if (u.1 q7 (x3).toNatClampNeg) = 0 then (gf_Model_count_b111 F z rc_62 u t0 x1 x3 x2) else (gf_Model_count_b107 F z rc_62 u t0 x1 x3 x2)))
def gf_Model_count_S62 (F : Nat) (z : gw_Sh)  (rc_62 : gw_St → Nat → Int32 → Int32 → Int32 → Option (Int32 × gw_St)) (u : gw_St) (t0 : Nat) (x1 : Int32) (x2 : Int32) (x3 : Int32) : Option (Int32 × gw_St) :=
  if x1 = (2 : Int32) then (gf_Model_count_b77 F z rc_62 u t0 x1 x2 x3 x3 12) else (gf_Model_count_b77 F z rc_62 u t0 x1 x2 x3 x3 (u.1 t0 18))
def gf_Model_count_L62 (F : Nat) (z : gw_Sh)  : Nat → gw_St → Nat → Int32 → Int32 → Int32 → Option (Int32 × gw_St)
  | 0 => fun _ _ _ _ _ => none
  | n + 1 => fun u t0 x1 x2 x3 => gf_Model_count_S62 F z  (gf_Model_count_L62 F z  n) u t0 x1 x2 x3
def gf_Model_count_b0 (F : Nat) (z : gw_Sh)  (u : gw_St) (t0 : Nat) (x1 : Int32) : Option (Int32 × gw_St) :=
  gf_nm (gw_wi u t0 0 (0 : Int32)) fun u16 => gf_cl (gf_Model_within F z u16 x1 (0 : Int32) (4 : Int32)) fun a20 u18 => if a20 = 0 then (some ((-1 : Int32), u18)) else (if (2 : Int32) ≤ x1 then (if x1 = (4 : Int32) then (if (u18.1 t0 1) = 0 then (gf_Model_count_b57 F z  u18 0) else (gf_Model_count_b57 F z  u18 (u18.1 t0 7))) else (gf_Model_count_L62 F z  F u18 t0 x1 0 0)) else (if x1 = 0 then (gf_Model_count_b36 F z  u18 (u18.1 t0 18)) else (gf_Model_count_b36 F z  u18 (u18.1 t0 19))))
def gf_Model_count (F : Nat) (z : gw_Sh) (u : gw_St) (t0 : Nat) (x1 : Int32) : Option (Int32 × gw_St) := gf_Model_count_b0 F z  u t0 x1
set_option maxHeartbeats 4000000 in
set_option maxRecDepth 20000 in
theorem gx_Model_count_b36 {p : Program} {l : Launch} {e : Env} {s : State} {m : MethodId} {args : Array Value} {below : List Frame} {meth : Method} {c : Code} {D : va_G} {cA : Nat → ClassId} {hs : Nat → Nat} {z : gw_Sh} (F : Nat) {r0 : (Int32 × gw_St)} (C : gw_Cx p s m args c gb_Model_count 4 R_Model D cA) (hr : meth.sig.returnType = (some .int)) (hk : meth.locks = false) (u : gw_St) (sx0 : Int32)  {H : Heap} {locs : List Loc} {ls : Array Slot} (hW : gw_Wx D cA hs z s u H locs) (hl : lv_has ls 4 []) (h : gf_Model_count_b36 F z   u sx0 = some r0) : gw_Gi p l e gr_Model_count s m args below meth c D cA hs z r0 H locs ls 36 [.int sx0] := by
  obtain ⟨hx, hb, hml, hown, hts, hK⟩ := id C
  unfold gf_Model_count_b36 at h
  obtain rfl := Option.some.inj h
  exact gw_iret C hW hr hk gd_Model_count_36

set_option maxHeartbeats 4000000 in
set_option maxRecDepth 20000 in
theorem gx_Model_count_b57 {p : Program} {l : Launch} {e : Env} {s : State} {m : MethodId} {args : Array Value} {below : List Frame} {meth : Method} {c : Code} {D : va_G} {cA : Nat → ClassId} {hs : Nat → Nat} {z : gw_Sh} (F : Nat) {r0 : (Int32 × gw_St)} (C : gw_Cx p s m args c gb_Model_count 4 R_Model D cA) (hr : meth.sig.returnType = (some .int)) (hk : meth.locks = false) (u : gw_St) (sx0 : Int32)  {H : Heap} {locs : List Loc} {ls : Array Slot} (hW : gw_Wx D cA hs z s u H locs) (hl : lv_has ls 4 []) (h : gf_Model_count_b57 F z   u sx0 = some r0) : gw_Gi p l e gr_Model_count s m args below meth c D cA hs z r0 H locs ls 57 [.int sx0] := by
  obtain ⟨hx, hb, hml, hown, hts, hK⟩ := id C
  unfold gf_Model_count_b57 at h
  obtain rfl := Option.some.inj h
  exact gw_iret C hW hr hk gd_Model_count_57

set_option maxHeartbeats 4000000 in
set_option maxRecDepth 20000 in
theorem gx_Model_count_b112 {p : Program} {l : Launch} {e : Env} {s : State} {m : MethodId} {args : Array Value} {below : List Frame} {meth : Method} {c : Code} {D : va_G} {cA : Nat → ClassId} {hs : Nat → Nat} {z : gw_Sh} (F : Nat) {r0 : (Int32 × gw_St)} (C : gw_Cx p s m args c gb_Model_count 4 R_Model D cA) (hr : meth.sig.returnType = (some .int)) (hk : meth.locks = false) {rc_62 : gw_St → Nat → Int32 → Int32 → Int32 → Option (Int32 × gw_St)} (k_62 : ∀ (u : gw_St) (t0 : Nat) (x1 : Int32) (x2 : Int32) (x3 : Int32) (H : Heap) (locs : List Loc) (ls : Array Slot), gw_ok z t0 9 → gw_Wx D cA hs z s u H locs → lv_has ls 4 [(0, .ref (hs t0)), (1, .int x1), (2, .int x2), (3, .int x3)] → rc_62 u t0 x1 x2 x3 = some r0 → gw_Gi p l e gr_Model_count s m args below meth c D cA hs z r0 H locs ls 62 []) (u : gw_St) (t0 : Nat) (x1 : Int32) (x3 : Int32) (sx0 : Int32) (sx1 : Int32) (o_t0 : gw_ok z t0 9) {H : Heap} {locs : List Loc} {ls : Array Slot} (hW : gw_Wx D cA hs z s u H locs) (hl : lv_has ls 4 [(0, .ref (hs t0)), (1, .int x1), (3, .int x3)]) (h : gf_Model_count_b112 F z rc_62  u t0 x1 x3 sx0 sx1 = some r0) : gw_Gi p l e gr_Model_count s m args below meth c D cA hs z r0 H locs ls 112 [.int sx1, .int sx0] := by
  obtain ⟨hx, hb, hml, hown, hts, hK⟩ := id C
  unfold gf_Model_count_b112 at h
  refine lv_iadd hx hb gd_Model_count_112 ?_
  refine lv_topi (fun a1 e2 => ?_)
  have h := gf_nm_ok e2 h
  refine lv_istore_n (lv' := [(2, .int a1), (0, .ref (hs t0)), (1, .int x1), (3, .int x3)]) hx hb gd_Model_count_113 rfl hl (by decide) rfl (fun ls hl => ?_)
  obtain ⟨a3, e4⟩ : ∃ y : Int32, y = x3 + 1 := ⟨_, rfl⟩
  have h := gf_nm_ok e4 h
  refine lv_iinc (v := a3) (lv' := [(3, .int a3), (2, .int a1), (0, .ref (hs t0)), (1, .int x1)]) hx hb gd_Model_count_114 hl (k := 3) rfl (by rw [e4]; rfl) (by decide) rfl (fun ls hl => ?_)
  refine lv_goto (tgt := 62) hx hb gd_Model_count_117 (by decide) ?_
  exact k_62 u t0 x1 a1 a3 _ _ _ o_t0 hW (lv_sub hl [2, 3, 1, 0] rfl) h

set_option maxHeartbeats 4000000 in
set_option maxRecDepth 20000 in
theorem gx_Model_count_b111 {p : Program} {l : Launch} {e : Env} {s : State} {m : MethodId} {args : Array Value} {below : List Frame} {meth : Method} {c : Code} {D : va_G} {cA : Nat → ClassId} {hs : Nat → Nat} {z : gw_Sh} (F : Nat) {r0 : (Int32 × gw_St)} (C : gw_Cx p s m args c gb_Model_count 4 R_Model D cA) (hr : meth.sig.returnType = (some .int)) (hk : meth.locks = false) {rc_62 : gw_St → Nat → Int32 → Int32 → Int32 → Option (Int32 × gw_St)} (k_62 : ∀ (u : gw_St) (t0 : Nat) (x1 : Int32) (x2 : Int32) (x3 : Int32) (H : Heap) (locs : List Loc) (ls : Array Slot), gw_ok z t0 9 → gw_Wx D cA hs z s u H locs → lv_has ls 4 [(0, .ref (hs t0)), (1, .int x1), (2, .int x2), (3, .int x3)] → rc_62 u t0 x1 x2 x3 = some r0 → gw_Gi p l e gr_Model_count s m args below meth c D cA hs z r0 H locs ls 62 []) (u : gw_St) (t0 : Nat) (x1 : Int32) (x3 : Int32) (sx0 : Int32) (o_t0 : gw_ok z t0 9) {H : Heap} {locs : List Loc} {ls : Array Slot} (hW : gw_Wx D cA hs z s u H locs) (hl : lv_has ls 4 [(0, .ref (hs t0)), (1, .int x1), (3, .int x3)]) (h : gf_Model_count_b111 F z rc_62  u t0 x1 x3 sx0 = some r0) : gw_Gi p l e gr_Model_count s m args below meth c D cA hs z r0 H locs ls 111 [.int sx0] := by
  obtain ⟨hx, hb, hml, hown, hts, hK⟩ := id C
  unfold gf_Model_count_b111 at h
  refine lv_iconst (v := 0) hx hb gd_Model_count_111 (by decide) ?_
  exact gx_Model_count_b112 F C hr hk k_62 u t0 x1 x3 sx0 0 o_t0 hW (lv_sub hl [0, 1, 2] rfl) h

set_option maxHeartbeats 4000000 in
set_option maxRecDepth 20000 in
theorem gx_Model_count_b107 {p : Program} {l : Launch} {e : Env} {s : State} {m : MethodId} {args : Array Value} {below : List Frame} {meth : Method} {c : Code} {D : va_G} {cA : Nat → ClassId} {hs : Nat → Nat} {z : gw_Sh} (F : Nat) {r0 : (Int32 × gw_St)} (C : gw_Cx p s m args c gb_Model_count 4 R_Model D cA) (hr : meth.sig.returnType = (some .int)) (hk : meth.locks = false) {rc_62 : gw_St → Nat → Int32 → Int32 → Int32 → Option (Int32 × gw_St)} (k_62 : ∀ (u : gw_St) (t0 : Nat) (x1 : Int32) (x2 : Int32) (x3 : Int32) (H : Heap) (locs : List Loc) (ls : Array Slot), gw_ok z t0 9 → gw_Wx D cA hs z s u H locs → lv_has ls 4 [(0, .ref (hs t0)), (1, .int x1), (2, .int x2), (3, .int x3)] → rc_62 u t0 x1 x2 x3 = some r0 → gw_Gi p l e gr_Model_count s m args below meth c D cA hs z r0 H locs ls 62 []) (u : gw_St) (t0 : Nat) (x1 : Int32) (x3 : Int32) (sx0 : Int32) (o_t0 : gw_ok z t0 9) {H : Heap} {locs : List Loc} {ls : Array Slot} (hW : gw_Wx D cA hs z s u H locs) (hl : lv_has ls 4 [(0, .ref (hs t0)), (1, .int x1), (3, .int x3)]) (h : gf_Model_count_b107 F z rc_62  u t0 x1 x3 sx0 = some r0) : gw_Gi p l e gr_Model_count s m args below meth c D cA hs z r0 H locs ls 107 [.int sx0] := by
  obtain ⟨hx, hb, hml, hown, hts, hK⟩ := id C
  unfold gf_Model_count_b107 at h
  refine lv_iconst (v := 1) hx hb gd_Model_count_107 (by decide) ?_
  refine lv_goto (tgt := 112) hx hb gd_Model_count_108 (by decide) ?_
  exact gx_Model_count_b112 F C hr hk k_62 u t0 x1 x3 sx0 1 o_t0 hW (lv_sub hl [0, 1, 2] rfl) h

set_option maxHeartbeats 4000000 in
set_option maxRecDepth 20000 in
theorem gx_Model_count_b77 {p : Program} {l : Launch} {e : Env} {s : State} {m : MethodId} {args : Array Value} {below : List Frame} {meth : Method} {c : Code} {D : va_G} {cA : Nat → ClassId} {hs : Nat → Nat} {z : gw_Sh} (F : Nat) {r0 : (Int32 × gw_St)} (C : gw_Cx p s m args c gb_Model_count 4 R_Model D cA) (hr : meth.sig.returnType = (some .int)) (hk : meth.locks = false) {rc_62 : gw_St → Nat → Int32 → Int32 → Int32 → Option (Int32 × gw_St)} (k_62 : ∀ (u : gw_St) (t0 : Nat) (x1 : Int32) (x2 : Int32) (x3 : Int32) (H : Heap) (locs : List Loc) (ls : Array Slot), gw_ok z t0 9 → gw_Wx D cA hs z s u H locs → lv_has ls 4 [(0, .ref (hs t0)), (1, .int x1), (2, .int x2), (3, .int x3)] → rc_62 u t0 x1 x2 x3 = some r0 → gw_Gi p l e gr_Model_count s m args below meth c D cA hs z r0 H locs ls 62 []) (u : gw_St) (t0 : Nat) (x1 : Int32) (x2 : Int32) (x3 : Int32) (sx0 : Int32) (sx1 : Int32) (o_t0 : gw_ok z t0 9) {H : Heap} {locs : List Loc} {ls : Array Slot} (hW : gw_Wx D cA hs z s u H locs) (hl : lv_has ls 4 [(0, .ref (hs t0)), (1, .int x1), (2, .int x2), (3, .int x3)]) (h : gf_Model_count_b77 F z rc_62  u t0 x1 x2 x3 sx0 sx1 = some r0) : gw_Gi p l e gr_Model_count s m args below meth c D cA hs z r0 H locs ls 77 [.int sx1, .int sx0] := by
  obtain ⟨hx, hb, hml, hown, hts, hK⟩ := id C
  unfold gf_Model_count_b77 at h
  refine lv_icmp_ge (tgt := 120) hx hb gd_Model_count_77 (by decide) (fun c5 => ?_) (fun c5 => ?_)
  · have h := gf_t c5 h
    refine lv_iload_n hx hb gd_Model_count_120 rfl (lv_at hl 2 rfl) ?_
    obtain rfl := Option.some.inj h
    exact gw_iret C hW hr hk gd_Model_count_121
  · have h := gf_f c5 h
    refine lv_iload_n hx hb gd_Model_count_80 rfl (lv_at hl 2 rfl) ?_
    refine lv_iload_n hx hb gd_Model_count_81 rfl (lv_at hl 1 rfl) ?_
    refine lv_iconst (v := 2) hx hb gd_Model_count_82 (by decide) ?_
    refine lv_icmp_ne (tgt := 98) hx hb gd_Model_count_83 (by decide) (fun c6 => ?_) (fun c6 => ?_)
    · have h := gf_f c6 h
      refine lv_aload_n hx hb gd_Model_count_98 rfl (lv_at hl 0 rfl) ?_
      obtain ⟨q7, e8, h⟩ := gf_nn_ok h
      refine gw_getr (k := 28) (ty := 12) (ref := R_Model) C hW o_t0 (by decide) rfl gi_Model rfl (by decide) rfl rfl gk_463 gd_Model_count_99 e8 ?_
      have o_q7 := hW.ref (d := 12) o_t0 e8 rfl
      refine lv_iload_n hx hb gd_Model_count_102 rfl (lv_at hl 3 rfl) ?_
      obtain ⟨g9, h⟩ := gf_if_ok h
      refine gw_zald C hW o_q7 g9 gd_Model_count_103 ?_
      refine lv_if_eq (tgt := 111) hx hb gd_Model_count_104 (by decide) (fun c10 => ?_) (fun c10 => ?_)
      · have h := gf_t c10 h
        exact gx_Model_count_b111 F C hr hk k_62 u t0 x1 x3 x2 o_t0 hW (lv_sub hl [0, 1, 3] rfl) h
      · have h := gf_f c10 h
        exact gx_Model_count_b107 F C hr hk k_62 u t0 x1 x3 x2 o_t0 hW (lv_sub hl [0, 1, 3] rfl) h
    · have h := gf_t c6 h
      refine lv_aload_n hx hb gd_Model_count_86 rfl (lv_at hl 0 rfl) ?_
      obtain ⟨q11, e12, h⟩ := gf_nn_ok h
      refine gw_getr (k := 26) (ty := 10) (ref := R_Model) C hW o_t0 (by decide) rfl gi_Model rfl (by decide) rfl rfl gk_631 gd_Model_count_87 e12 ?_
      have o_q11 := hW.ref (d := 10) o_t0 e12 rfl
      refine lv_iload_n hx hb gd_Model_count_90 rfl (lv_at hl 3 rfl) ?_
      obtain ⟨g13, h⟩ := gf_if_ok h
      refine gw_iald C hW o_q11 g13 gd_Model_count_91 ?_
      refine lv_if_lt (tgt := 111) hx hb gd_Model_count_92 (by decide) (fun c14 => ?_) (fun c14 => ?_)
      · have h := gf_t c14 h
        exact gx_Model_count_b111 F C hr hk k_62 u t0 x1 x3 x2 o_t0 hW (lv_sub hl [0, 1, 3] rfl) h
      · have h := gf_f c14 h
        refine lv_goto (tgt := 107) hx hb gd_Model_count_95 (by decide) ?_
        exact gx_Model_count_b107 F C hr hk k_62 u t0 x1 x3 x2 o_t0 hW (lv_sub hl [0, 1, 3] rfl) h

set_option maxHeartbeats 4000000 in
set_option maxRecDepth 20000 in
theorem gx_Model_count_S62 {p : Program} {l : Launch} {e : Env} {s : State} {m : MethodId} {args : Array Value} {below : List Frame} {meth : Method} {c : Code} {D : va_G} {cA : Nat → ClassId} {hs : Nat → Nat} {z : gw_Sh} (F : Nat) {r0 : (Int32 × gw_St)} (C : gw_Cx p s m args c gb_Model_count 4 R_Model D cA) (hr : meth.sig.returnType = (some .int)) (hk : meth.locks = false) {rc_62 : gw_St → Nat → Int32 → Int32 → Int32 → Option (Int32 × gw_St)} (k_62 : ∀ (u : gw_St) (t0 : Nat) (x1 : Int32) (x2 : Int32) (x3 : Int32) (H : Heap) (locs : List Loc) (ls : Array Slot), gw_ok z t0 9 → gw_Wx D cA hs z s u H locs → lv_has ls 4 [(0, .ref (hs t0)), (1, .int x1), (2, .int x2), (3, .int x3)] → rc_62 u t0 x1 x2 x3 = some r0 → gw_Gi p l e gr_Model_count s m args below meth c D cA hs z r0 H locs ls 62 []) (u : gw_St) (t0 : Nat) (x1 : Int32) (x2 : Int32) (x3 : Int32) (o_t0 : gw_ok z t0 9) {H : Heap} {locs : List Loc} {ls : Array Slot} (hW : gw_Wx D cA hs z s u H locs) (hl : lv_has ls 4 [(0, .ref (hs t0)), (1, .int x1), (2, .int x2), (3, .int x3)]) (h : gf_Model_count_S62 F z  rc_62 u t0 x1 x2 x3 = some r0) : gw_Gi p l e gr_Model_count s m args below meth c D cA hs z r0 H locs ls 62 [] := by
  obtain ⟨hx, hb, hml, hown, hts, hK⟩ := id C
  unfold gf_Model_count_S62 at h
  refine lv_iload_n hx hb gd_Model_count_62 rfl (lv_at hl 3 rfl) ?_
  refine lv_iload_n hx hb gd_Model_count_63 rfl (lv_at hl 1 rfl) ?_
  refine lv_iconst (v := 2) hx hb gd_Model_count_64 (by decide) ?_
  refine lv_icmp_ne (tgt := 73) hx hb gd_Model_count_65 (by decide) (fun c15 => ?_) (fun c15 => ?_)
  · have h := gf_f c15 h
    refine lv_aload_n hx hb gd_Model_count_73 rfl (lv_at hl 0 rfl) ?_
    refine gw_geti (k := 18) (ref := R_Model) C hW o_t0 (by decide) rfl gi_Model rfl (by decide) rfl rfl gk_461 gd_Model_count_74 ?_
    exact gx_Model_count_b77 F C hr hk k_62 u t0 x1 x2 x3 x3 (u.1 t0 18) o_t0 hW (lv_sub hl [0, 1, 2, 3] rfl) h
  · have h := gf_t c15 h
    refine lv_bipush (v := 12) hx hb gd_Model_count_68 (by decide) ?_
    refine lv_goto (tgt := 77) hx hb gd_Model_count_70 (by decide) ?_
    exact gx_Model_count_b77 F C hr hk k_62 u t0 x1 x2 x3 x3 12 o_t0 hW (lv_sub hl [0, 1, 2, 3] rfl) h
set_option maxHeartbeats 4000000 in
set_option maxRecDepth 20000 in
theorem gx_Model_count_L62 {p : Program} {l : Launch} {e : Env} {s : State} {m : MethodId} {args : Array Value} {below : List Frame} {meth : Method} {c : Code} {D : va_G} {cA : Nat → ClassId} {hs : Nat → Nat} {z : gw_Sh} (F : Nat) {r0 : (Int32 × gw_St)} (C : gw_Cx p s m args c gb_Model_count 4 R_Model D cA) (hr : meth.sig.returnType = (some .int)) (hk : meth.locks = false) : ∀ (n : Nat), ∀ (u : gw_St) (t0 : Nat) (x1 : Int32) (x2 : Int32) (x3 : Int32) (H : Heap) (locs : List Loc) (ls : Array Slot), gw_ok z t0 9 → gw_Wx D cA hs z s u H locs → lv_has ls 4 [(0, .ref (hs t0)), (1, .int x1), (2, .int x2), (3, .int x3)] → gf_Model_count_L62 F z  n u t0 x1 x2 x3 = some r0 → gw_Gi p l e gr_Model_count s m args below meth c D cA hs z r0 H locs ls 62 [] := by
  intro n
  induction n with
  | zero =>
    intro u t0 x1 x2 x3 H locs ls o_t0 hW hl h
    cases h
  | succ n ih =>
    intro u t0 x1 x2 x3 H locs ls o_t0 hW hl h
    exact gx_Model_count_S62 F C hr hk  ih u t0 x1 x2 x3 o_t0 hW hl h

set_option maxHeartbeats 4000000 in
set_option maxRecDepth 20000 in
theorem gx_Model_count_b0 {p : Program} {l : Launch} {e : Env} {s : State} {m : MethodId} {args : Array Value} {below : List Frame} {meth : Method} {c : Code} {D : va_G} {cA : Nat → ClassId} {hs : Nat → Nat} {z : gw_Sh} (F : Nat) {r0 : (Int32 × gw_St)} (C : gw_Cx p s m args c gb_Model_count 4 R_Model D cA) (hr : meth.sig.returnType = (some .int)) (hk : meth.locks = false) (u : gw_St) (t0 : Nat) (x1 : Int32) (o_t0 : gw_ok z t0 9) {H : Heap} {locs : List Loc} {ls : Array Slot} (hW : gw_Wx D cA hs z s u H locs) (hl : lv_has ls 4 [(0, .ref (hs t0)), (1, .int x1)]) (h : gf_Model_count_b0 F z   u t0 x1 = some r0) : gw_Gi p l e gr_Model_count s m args below meth c D cA hs z r0 H locs ls 0 [] := by
  obtain ⟨hx, hb, hml, hown, hts, hK⟩ := id C
  unfold gf_Model_count_b0 at h
  refine lv_aload_n hx hb gd_Model_count_0 rfl (lv_at hl 0 rfl) ?_
  refine lv_iconst (v := 0) hx hb gd_Model_count_1 (by decide) ?_
  refine gw_puti (k := 0) (ref := R_Model) (fty := .int) C hW o_t0 (by decide) rfl gi_Model rfl (by decide) rfl rfl gk_376 tf_Model tf_Model_ok nm_Model rfl rfl rfl rfl gd_Model_count_2 (fun u16 H locs e17 hW => ?_)
  have h := gf_nm_ok e17 h
  refine lv_iload_n hx hb gd_Model_count_5 rfl (lv_at hl 1 rfl) ?_
  refine lv_iconst (v := 0) hx hb gd_Model_count_6 (by decide) ?_
  refine lv_iconst (v := 4) hx hb gd_Model_count_7 (by decide) ?_
  obtain ⟨a20, u18, d19, h⟩ := gf_cl_ok h
  refine gw_callSi (As := [.int x1, .int (0 : Int32), .int (4 : Int32)]) (rest := []) C hW (fun _ h => Or.inr h) hl.1 gm_Model_within (gc_Model_within l F  d19 _) gk_398 gk_399 rfl rfl ⟨Nat.le_of_ble_eq_true rfl, Nat.le_of_ble_eq_true rfl⟩ ⟨Nat.zero_le _, Nat.zero_le _⟩ rfl rfl (Nat.le_of_ble_eq_true rfl) gd_Model_count_8 (fun H locs hW => ?_)
  refine lv_if_ne (tgt := 16) hx hb gd_Model_count_11 (by decide) (fun c21 => ?_) (fun c21 => ?_)
  · have h := gf_f c21 h
    refine lv_iload_n hx hb gd_Model_count_16 rfl (lv_at hl 1 rfl) ?_
    refine lv_iconst (v := 2) hx hb gd_Model_count_17 (by decide) ?_
    refine lv_icmp_ge (tgt := 37) hx hb gd_Model_count_18 (by decide) (fun c22 => ?_) (fun c22 => ?_)
    · have h := gf_t c22 h
      refine lv_iload_n hx hb gd_Model_count_37 rfl (lv_at hl 1 rfl) ?_
      refine lv_iconst (v := 4) hx hb gd_Model_count_38 (by decide) ?_
      refine lv_icmp_ne (tgt := 58) hx hb gd_Model_count_39 (by decide) (fun c23 => ?_) (fun c23 => ?_)
      · have h := gf_f c23 h
        refine lv_iconst (v := 0) hx hb gd_Model_count_58 (by decide) ?_
        refine lv_istore_n (lv' := [(2, .int 0), (0, .ref (hs t0)), (1, .int x1)]) hx hb gd_Model_count_59 rfl hl (by decide) rfl (fun ls hl => ?_)
        refine lv_iconst (v := 0) hx hb gd_Model_count_60 (by decide) ?_
        refine lv_istore_n (lv' := [(3, .int 0), (2, .int 0), (0, .ref (hs t0)), (1, .int x1)]) hx hb gd_Model_count_61 rfl hl (by decide) rfl (fun ls hl => ?_)
        exact gx_Model_count_L62 F C hr hk  F u18 t0 x1 0 0 _ _ _ o_t0 hW (lv_sub hl [2, 3, 1, 0] rfl) h
      · have h := gf_t c23 h
        refine lv_aload_n hx hb gd_Model_count_42 rfl (lv_at hl 0 rfl) ?_
        refine gw_geti (k := 1) (ref := R_Model) C hW o_t0 (by decide) rfl gi_Model rfl (by decide) rfl rfl gk_388 gd_Model_count_43 ?_
        refine lv_if_eq (tgt := 56) hx hb gd_Model_count_46 (by decide) (fun c24 => ?_) (fun c24 => ?_)
        · have h := gf_t c24 h
          refine lv_iconst (v := 0) hx hb gd_Model_count_56 (by decide) ?_
          exact gx_Model_count_b57 F C hr hk  u18 0  hW (lv_sub hl [] rfl) h
        · have h := gf_f c24 h
          refine lv_aload_n hx hb gd_Model_count_49 rfl (lv_at hl 0 rfl) ?_
          refine gw_geti (k := 7) (ref := R_Model) C hW o_t0 (by decide) rfl gi_Model rfl (by decide) rfl rfl gk_396 gd_Model_count_50 ?_
          refine lv_goto (tgt := 57) hx hb gd_Model_count_53 (by decide) ?_
          exact gx_Model_count_b57 F C hr hk  u18 (u18.1 t0 7)  hW (lv_sub hl [] rfl) h
    · have h := gf_f c22 h
      refine lv_iload_n hx hb gd_Model_count_21 rfl (lv_at hl 1 rfl) ?_
      refine lv_if_ne (tgt := 32) hx hb gd_Model_count_22 (by decide) (fun c25 => ?_) (fun c25 => ?_)
      · have h := gf_f c25 h
        refine lv_aload_n hx hb gd_Model_count_32 rfl (lv_at hl 0 rfl) ?_
        refine gw_geti (k := 19) (ref := R_Model) C hW o_t0 (by decide) rfl gi_Model rfl (by decide) rfl rfl gk_466 gd_Model_count_33 ?_
        exact gx_Model_count_b36 F C hr hk  u18 (u18.1 t0 19)  hW (lv_sub hl [] rfl) h
      · have h := gf_t c25 h
        refine lv_aload_n hx hb gd_Model_count_25 rfl (lv_at hl 0 rfl) ?_
        refine gw_geti (k := 18) (ref := R_Model) C hW o_t0 (by decide) rfl gi_Model rfl (by decide) rfl rfl gk_461 gd_Model_count_26 ?_
        refine lv_goto (tgt := 36) hx hb gd_Model_count_29 (by decide) ?_
        exact gx_Model_count_b36 F C hr hk  u18 (u18.1 t0 18)  hW (lv_sub hl [] rfl) h
  · have h := gf_t c21 h
    refine lv_iconst (v := (-1)) hx hb gd_Model_count_14 (by decide) ?_
    obtain rfl := Option.some.inj h
    exact gw_iret C hW hr hk gd_Model_count_15

set_option maxRecDepth 20000 in
theorem gc_Model_count (l : Launch) {D : va_G} {cA : Nat → ClassId} {hs : Nat → Nat} {z : gw_Sh} (F : Nat) {u : gw_St} {r0 : (Int32 × gw_St)} {t0 : Nat} {x1 : Int32} (o_t0 : gw_ok z t0 9) (h : gf_Model_count F z u t0 x1 = some r0) (sz : Nat) : gw_Mi l gy_Model_count gb_Model_count 4 (some .int) gr_Model_count [.ref (hs t0), .int x1] D cA hs z u sz r0 := by
  refine gw_enter (by decide) (Nat.le_of_ble_eq_true rfl) ?_
  intro p e s m below meth c ls hsz C hW hr hk _ hl
  subst hsz
  exact gx_Model_count_b0 F C hr hk u t0 x1 o_t0 hW (lv_sub hl [0, 1] rfl) h
