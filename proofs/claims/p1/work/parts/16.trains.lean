-- GearDesk$Trains.areAllowed(III)Z
theorem gk_131 : Cond.initialized R_Trains ∈ gt_T := gt_m1 (List.mem_of_getElem? (i := 2) rfl) rfl
def gy_Trains_areAllowed : MethodName := ⟨R_Trains, "areAllowed", "(III)Z"⟩
abbrev gb_Trains_areAllowed : ByteArray := prog_7_method_2_code
theorem gk_132 : Cond.code gy_Trains_areAllowed gb_Trains_areAllowed 4 (some .boolean) ∈ gt_T := gt_m2 (List.mem_of_getElem? (i := 161) rfl) rfl
def gr_Trains_areAllowed : Room := gw_rm 1 64
theorem gm_Trains_areAllowed : gw_Mth gy_Trains_areAllowed gb_Trains_areAllowed 4 (some .boolean) 3 := ⟨gk_132, gk_131, ⟨by decide +kernel, by decide +kernel⟩, by decide +kernel⟩
theorem gd_Trains_areAllowed_0 : decode gb_Trains_areAllowed 0 = .ok (.iload_n 0, 1) := by decide +kernel
theorem gd_Trains_areAllowed_1 : decode gb_Trains_areAllowed 1 = .ok (.iconst 1, 1) := by decide +kernel
theorem gd_Trains_areAllowed_2 : decode gb_Trains_areAllowed 2 = .ok (.if_icmp .lt 25, 3) := by decide +kernel
theorem gd_Trains_areAllowed_5 : decode gb_Trains_areAllowed 5 = .ok (.iload_n 0, 1) := by decide +kernel
theorem gd_Trains_areAllowed_6 : decode gb_Trains_areAllowed 6 = .ok (.iconst 4, 1) := by decide +kernel
theorem gd_Trains_areAllowed_7 : decode gb_Trains_areAllowed 7 = .ok (.if_icmp .gt 20, 3) := by decide +kernel
theorem gd_Trains_areAllowed_10 : decode gb_Trains_areAllowed 10 = .ok (.iload_n 1, 1) := by decide +kernel
theorem gd_Trains_areAllowed_11 : decode gb_Trains_areAllowed 11 = .ok (.bipush 8, 2) := by decide +kernel
theorem gd_Trains_areAllowed_13 : decode gb_Trains_areAllowed 13 = .ok (.if_icmp .lt 14, 3) := by decide +kernel
theorem gd_Trains_areAllowed_16 : decode gb_Trains_areAllowed 16 = .ok (.iload_n 2, 1) := by decide +kernel
theorem gd_Trains_areAllowed_17 : decode gb_Trains_areAllowed 17 = .ok (.iload_n 1, 1) := by decide +kernel
theorem gd_Trains_areAllowed_18 : decode gb_Trains_areAllowed 18 = .ok (.if_icmp .lt 9, 3) := by decide +kernel
theorem gd_Trains_areAllowed_21 : decode gb_Trains_areAllowed 21 = .ok (.iload_n 2, 1) := by decide +kernel
theorem gd_Trains_areAllowed_22 : decode gb_Trains_areAllowed 22 = .ok (.bipush 120, 2) := by decide +kernel
theorem gd_Trains_areAllowed_24 : decode gb_Trains_areAllowed 24 = .ok (.if_icmp .le 5, 3) := by decide +kernel
theorem gd_Trains_areAllowed_27 : decode gb_Trains_areAllowed 27 = .ok (.iconst 0, 1) := by decide +kernel
theorem gd_Trains_areAllowed_28 : decode gb_Trains_areAllowed 28 = .ok (.ireturn, 1) := by decide +kernel
theorem gd_Trains_areAllowed_29 : decode gb_Trains_areAllowed 29 = .ok (.iload_n 2, 1) := by decide +kernel
theorem gd_Trains_areAllowed_30 : decode gb_Trains_areAllowed 30 = .ok (.iload_n 1, 1) := by decide +kernel
theorem gd_Trains_areAllowed_31 : decode gb_Trains_areAllowed 31 = .ok (.isub, 1) := by decide +kernel
theorem gd_Trains_areAllowed_32 : decode gb_Trains_areAllowed 32 = .ok (.iconst 1, 1) := by decide +kernel
theorem gd_Trains_areAllowed_33 : decode gb_Trains_areAllowed 33 = .ok (.iadd, 1) := by decide +kernel
theorem gd_Trains_areAllowed_34 : decode gb_Trains_areAllowed 34 = .ok (.istore_n 3, 1) := by decide +kernel
theorem gd_Trains_areAllowed_35 : decode gb_Trains_areAllowed 35 = .ok (.iload_n 0, 1) := by decide +kernel
theorem gd_Trains_areAllowed_36 : decode gb_Trains_areAllowed 36 = .ok (.iconst 3, 1) := by decide +kernel
theorem gd_Trains_areAllowed_37 : decode gb_Trains_areAllowed 37 = .ok (.if_icmp .ne 9, 3) := by decide +kernel
theorem gd_Trains_areAllowed_40 : decode gb_Trains_areAllowed 40 = .ok (.iload_n 3, 1) := by decide +kernel
theorem gd_Trains_areAllowed_41 : decode gb_Trains_areAllowed 41 = .ok (.bipush 60, 2) := by decide +kernel
theorem gd_Trains_areAllowed_43 : decode gb_Trains_areAllowed 43 = .ok (.if_icmp .gt 18, 3) := by decide +kernel
theorem gd_Trains_areAllowed_46 : decode gb_Trains_areAllowed 46 = .ok (.iload_n 0, 1) := by decide +kernel
theorem gd_Trains_areAllowed_47 : decode gb_Trains_areAllowed 47 = .ok (.iconst 4, 1) := by decide +kernel
theorem gd_Trains_areAllowed_48 : decode gb_Trains_areAllowed 48 = .ok (.if_icmp .ne 9, 3) := by decide +kernel
theorem gd_Trains_areAllowed_51 : decode gb_Trains_areAllowed 51 = .ok (.iload_n 3, 1) := by decide +kernel
theorem gd_Trains_areAllowed_52 : decode gb_Trains_areAllowed 52 = .ok (.bipush 20, 2) := by decide +kernel
theorem gd_Trains_areAllowed_54 : decode gb_Trains_areAllowed 54 = .ok (.if_icmp .gt 7, 3) := by decide +kernel
theorem gd_Trains_areAllowed_57 : decode gb_Trains_areAllowed 57 = .ok (.iconst 1, 1) := by decide +kernel
theorem gd_Trains_areAllowed_58 : decode gb_Trains_areAllowed 58 = .ok (.goto 4, 3) := by decide +kernel
theorem gd_Trains_areAllowed_61 : decode gb_Trains_areAllowed 61 = .ok (.iconst 0, 1) := by decide +kernel
theorem gd_Trains_areAllowed_62 : decode gb_Trains_areAllowed 62 = .ok (.ireturn, 1) := by decide +kernel
def gf_Trains_areAllowed_b27 (F : Nat) (z : gw_Sh)  (u : gw_St)  : Option (Int32 × gw_St) :=
  if ¬ ((0 : Int32) &&& 1 = (0 : Int32)) then none else some ((0 : Int32), u)
def gf_Trains_areAllowed_b62 (F : Nat) (z : gw_Sh)  (u : gw_St) (sx0 : Int32) : Option (Int32 × gw_St) :=
  if ¬ (sx0 &&& 1 = sx0) then none else some (sx0, u)
def gf_Trains_areAllowed_b57 (F : Nat) (z : gw_Sh)  (u : gw_St)  : Option (Int32 × gw_St) :=
  gf_Trains_areAllowed_b62 F z  u 1
def gf_Trains_areAllowed_b61 (F : Nat) (z : gw_Sh)  (u : gw_St)  : Option (Int32 × gw_St) :=
  gf_Trains_areAllowed_b62 F z  u 0
def gf_Trains_areAllowed_b46 (F : Nat) (z : gw_Sh)  (u : gw_St) (x0 : Int32) (x3 : Int32) : Option (Int32 × gw_St) :=
  if x0 = (4 : Int32) then (if (20 : Int32) < x3 then (gf_Trains_areAllowed_b61 F z  u ) else (gf_Trains_areAllowed_b57 F z  u )) else (gf_Trains_areAllowed_b57 F z  u )
def gf_Trains_areAllowed_b0 (F : Nat) (z : gw_Sh)  (u : gw_St) (x0 : Int32) (x1 : Int32) (x2 : Int32) : Option (Int32 × gw_St) :=
  if x0 < (1 : Int32) then (gf_Trains_areAllowed_b27 F z  u ) else (if (4 : Int32) < x0 then (gf_Trains_areAllowed_b27 F z  u ) else (if x1 < (8 : Int32) then (gf_Trains_areAllowed_b27 F z  u ) else (if x2 < x1 then (gf_Trains_areAllowed_b27 F z  u ) else (if x2 ≤ (120 : Int32) then (gf_nm ((x2 - x1) + (1 : Int32)) fun a10 => if x0 = (3 : Int32) then (if (60 : Int32) < a10 then (gf_Trains_areAllowed_b61 F z  u ) else (gf_Trains_areAllowed_b46 F z  u x0 a10)) else (gf_Trains_areAllowed_b46 F z  u x0 a10)) else (gf_Trains_areAllowed_b27 F z  u )))))
def gf_Trains_areAllowed (F : Nat) (z : gw_Sh) (u : gw_St) (x0 : Int32) (x1 : Int32) (x2 : Int32) : Option (Int32 × gw_St) := gf_Trains_areAllowed_b0 F z  u x0 x1 x2
set_option maxHeartbeats 4000000 in
set_option maxRecDepth 20000 in
theorem gx_Trains_areAllowed_b27 {p : Program} {l : Launch} {e : Env} {s : State} {m : MethodId} {args : Array Value} {below : List Frame} {meth : Method} {c : Code} {D : va_G} {cA : Nat → ClassId} {hs : Nat → Nat} {z : gw_Sh} (F : Nat) {r0 : (Int32 × gw_St)} (C : gw_Cx p s m args c gb_Trains_areAllowed 4 R_Trains D cA) (hr : meth.sig.returnType = (some .boolean)) (hk : meth.locks = false) (u : gw_St)   {H : Heap} {locs : List Loc} {ls : Array Slot} (hW : gw_Wx D cA hs z s u H locs) (hl : lv_has ls 4 []) (h : gf_Trains_areAllowed_b27 F z   u  = some r0) : gw_Gi p l e gr_Trains_areAllowed s m args below meth c D cA hs z r0 H locs ls 27 [] := by
  obtain ⟨hx, hb, hml, hown, hts, hK⟩ := id C
  unfold gf_Trains_areAllowed_b27 at h
  refine lv_iconst (v := 0) hx hb gd_Trains_areAllowed_27 (by decide) ?_
  obtain ⟨g1, h⟩ := gf_if_ok h
  obtain rfl := Option.some.inj h
  exact gw_zret C hW hr (Decidable.not_not.mp g1) hk gd_Trains_areAllowed_28

set_option maxHeartbeats 4000000 in
set_option maxRecDepth 20000 in
theorem gx_Trains_areAllowed_b62 {p : Program} {l : Launch} {e : Env} {s : State} {m : MethodId} {args : Array Value} {below : List Frame} {meth : Method} {c : Code} {D : va_G} {cA : Nat → ClassId} {hs : Nat → Nat} {z : gw_Sh} (F : Nat) {r0 : (Int32 × gw_St)} (C : gw_Cx p s m args c gb_Trains_areAllowed 4 R_Trains D cA) (hr : meth.sig.returnType = (some .boolean)) (hk : meth.locks = false) (u : gw_St) (sx0 : Int32)  {H : Heap} {locs : List Loc} {ls : Array Slot} (hW : gw_Wx D cA hs z s u H locs) (hl : lv_has ls 4 []) (h : gf_Trains_areAllowed_b62 F z   u sx0 = some r0) : gw_Gi p l e gr_Trains_areAllowed s m args below meth c D cA hs z r0 H locs ls 62 [.int sx0] := by
  obtain ⟨hx, hb, hml, hown, hts, hK⟩ := id C
  unfold gf_Trains_areAllowed_b62 at h
  obtain ⟨g2, h⟩ := gf_if_ok h
  obtain rfl := Option.some.inj h
  exact gw_zret C hW hr (Decidable.not_not.mp g2) hk gd_Trains_areAllowed_62

set_option maxHeartbeats 4000000 in
set_option maxRecDepth 20000 in
theorem gx_Trains_areAllowed_b57 {p : Program} {l : Launch} {e : Env} {s : State} {m : MethodId} {args : Array Value} {below : List Frame} {meth : Method} {c : Code} {D : va_G} {cA : Nat → ClassId} {hs : Nat → Nat} {z : gw_Sh} (F : Nat) {r0 : (Int32 × gw_St)} (C : gw_Cx p s m args c gb_Trains_areAllowed 4 R_Trains D cA) (hr : meth.sig.returnType = (some .boolean)) (hk : meth.locks = false) (u : gw_St)   {H : Heap} {locs : List Loc} {ls : Array Slot} (hW : gw_Wx D cA hs z s u H locs) (hl : lv_has ls 4 []) (h : gf_Trains_areAllowed_b57 F z   u  = some r0) : gw_Gi p l e gr_Trains_areAllowed s m args below meth c D cA hs z r0 H locs ls 57 [] := by
  obtain ⟨hx, hb, hml, hown, hts, hK⟩ := id C
  unfold gf_Trains_areAllowed_b57 at h
  refine lv_iconst (v := 1) hx hb gd_Trains_areAllowed_57 (by decide) ?_
  refine lv_goto (tgt := 62) hx hb gd_Trains_areAllowed_58 (by decide) ?_
  exact gx_Trains_areAllowed_b62 F C hr hk  u 1  hW (lv_sub hl [] rfl) h

set_option maxHeartbeats 4000000 in
set_option maxRecDepth 20000 in
theorem gx_Trains_areAllowed_b61 {p : Program} {l : Launch} {e : Env} {s : State} {m : MethodId} {args : Array Value} {below : List Frame} {meth : Method} {c : Code} {D : va_G} {cA : Nat → ClassId} {hs : Nat → Nat} {z : gw_Sh} (F : Nat) {r0 : (Int32 × gw_St)} (C : gw_Cx p s m args c gb_Trains_areAllowed 4 R_Trains D cA) (hr : meth.sig.returnType = (some .boolean)) (hk : meth.locks = false) (u : gw_St)   {H : Heap} {locs : List Loc} {ls : Array Slot} (hW : gw_Wx D cA hs z s u H locs) (hl : lv_has ls 4 []) (h : gf_Trains_areAllowed_b61 F z   u  = some r0) : gw_Gi p l e gr_Trains_areAllowed s m args below meth c D cA hs z r0 H locs ls 61 [] := by
  obtain ⟨hx, hb, hml, hown, hts, hK⟩ := id C
  unfold gf_Trains_areAllowed_b61 at h
  refine lv_iconst (v := 0) hx hb gd_Trains_areAllowed_61 (by decide) ?_
  exact gx_Trains_areAllowed_b62 F C hr hk  u 0  hW (lv_sub hl [] rfl) h

set_option maxHeartbeats 4000000 in
set_option maxRecDepth 20000 in
theorem gx_Trains_areAllowed_b46 {p : Program} {l : Launch} {e : Env} {s : State} {m : MethodId} {args : Array Value} {below : List Frame} {meth : Method} {c : Code} {D : va_G} {cA : Nat → ClassId} {hs : Nat → Nat} {z : gw_Sh} (F : Nat) {r0 : (Int32 × gw_St)} (C : gw_Cx p s m args c gb_Trains_areAllowed 4 R_Trains D cA) (hr : meth.sig.returnType = (some .boolean)) (hk : meth.locks = false) (u : gw_St) (x0 : Int32) (x3 : Int32)  {H : Heap} {locs : List Loc} {ls : Array Slot} (hW : gw_Wx D cA hs z s u H locs) (hl : lv_has ls 4 [(0, .int x0), (3, .int x3)]) (h : gf_Trains_areAllowed_b46 F z   u x0 x3 = some r0) : gw_Gi p l e gr_Trains_areAllowed s m args below meth c D cA hs z r0 H locs ls 46 [] := by
  obtain ⟨hx, hb, hml, hown, hts, hK⟩ := id C
  unfold gf_Trains_areAllowed_b46 at h
  refine lv_iload_n hx hb gd_Trains_areAllowed_46 rfl (lv_at hl 0 rfl) ?_
  refine lv_iconst (v := 4) hx hb gd_Trains_areAllowed_47 (by decide) ?_
  refine lv_icmp_ne (tgt := 57) hx hb gd_Trains_areAllowed_48 (by decide) (fun c3 => ?_) (fun c3 => ?_)
  · have h := gf_f c3 h
    exact gx_Trains_areAllowed_b57 F C hr hk  u   hW (lv_sub hl [] rfl) h
  · have h := gf_t c3 h
    refine lv_iload_n hx hb gd_Trains_areAllowed_51 rfl (lv_at hl 1 rfl) ?_
    refine lv_bipush (v := 20) hx hb gd_Trains_areAllowed_52 (by decide) ?_
    refine lv_icmp_gt (tgt := 61) hx hb gd_Trains_areAllowed_54 (by decide) (fun c4 => ?_) (fun c4 => ?_)
    · have h := gf_t c4 h
      exact gx_Trains_areAllowed_b61 F C hr hk  u   hW (lv_sub hl [] rfl) h
    · have h := gf_f c4 h
      exact gx_Trains_areAllowed_b57 F C hr hk  u   hW (lv_sub hl [] rfl) h

set_option maxHeartbeats 4000000 in
set_option maxRecDepth 20000 in
theorem gx_Trains_areAllowed_b0 {p : Program} {l : Launch} {e : Env} {s : State} {m : MethodId} {args : Array Value} {below : List Frame} {meth : Method} {c : Code} {D : va_G} {cA : Nat → ClassId} {hs : Nat → Nat} {z : gw_Sh} (F : Nat) {r0 : (Int32 × gw_St)} (C : gw_Cx p s m args c gb_Trains_areAllowed 4 R_Trains D cA) (hr : meth.sig.returnType = (some .boolean)) (hk : meth.locks = false) (u : gw_St) (x0 : Int32) (x1 : Int32) (x2 : Int32)  {H : Heap} {locs : List Loc} {ls : Array Slot} (hW : gw_Wx D cA hs z s u H locs) (hl : lv_has ls 4 [(0, .int x0), (1, .int x1), (2, .int x2)]) (h : gf_Trains_areAllowed_b0 F z   u x0 x1 x2 = some r0) : gw_Gi p l e gr_Trains_areAllowed s m args below meth c D cA hs z r0 H locs ls 0 [] := by
  obtain ⟨hx, hb, hml, hown, hts, hK⟩ := id C
  unfold gf_Trains_areAllowed_b0 at h
  refine lv_iload_n hx hb gd_Trains_areAllowed_0 rfl (lv_at hl 0 rfl) ?_
  refine lv_iconst (v := 1) hx hb gd_Trains_areAllowed_1 (by decide) ?_
  refine lv_icmp_lt (tgt := 27) hx hb gd_Trains_areAllowed_2 (by decide) (fun c5 => ?_) (fun c5 => ?_)
  · have h := gf_t c5 h
    exact gx_Trains_areAllowed_b27 F C hr hk  u   hW (lv_sub hl [] rfl) h
  · have h := gf_f c5 h
    refine lv_iload_n hx hb gd_Trains_areAllowed_5 rfl (lv_at hl 0 rfl) ?_
    refine lv_iconst (v := 4) hx hb gd_Trains_areAllowed_6 (by decide) ?_
    refine lv_icmp_gt (tgt := 27) hx hb gd_Trains_areAllowed_7 (by decide) (fun c6 => ?_) (fun c6 => ?_)
    · have h := gf_t c6 h
      exact gx_Trains_areAllowed_b27 F C hr hk  u   hW (lv_sub hl [] rfl) h
    · have h := gf_f c6 h
      refine lv_iload_n hx hb gd_Trains_areAllowed_10 rfl (lv_at hl 1 rfl) ?_
      refine lv_bipush (v := 8) hx hb gd_Trains_areAllowed_11 (by decide) ?_
      refine lv_icmp_lt (tgt := 27) hx hb gd_Trains_areAllowed_13 (by decide) (fun c7 => ?_) (fun c7 => ?_)
      · have h := gf_t c7 h
        exact gx_Trains_areAllowed_b27 F C hr hk  u   hW (lv_sub hl [] rfl) h
      · have h := gf_f c7 h
        refine lv_iload_n hx hb gd_Trains_areAllowed_16 rfl (lv_at hl 2 rfl) ?_
        refine lv_iload_n hx hb gd_Trains_areAllowed_17 rfl (lv_at hl 1 rfl) ?_
        refine lv_icmp_lt (tgt := 27) hx hb gd_Trains_areAllowed_18 (by decide) (fun c8 => ?_) (fun c8 => ?_)
        · have h := gf_t c8 h
          exact gx_Trains_areAllowed_b27 F C hr hk  u   hW (lv_sub hl [] rfl) h
        · have h := gf_f c8 h
          refine lv_iload_n hx hb gd_Trains_areAllowed_21 rfl (lv_at hl 2 rfl) ?_
          refine lv_bipush (v := 120) hx hb gd_Trains_areAllowed_22 (by decide) ?_
          refine lv_icmp_le (tgt := 29) hx hb gd_Trains_areAllowed_24 (by decide) (fun c9 => ?_) (fun c9 => ?_)
          · have h := gf_t c9 h
            refine lv_iload_n hx hb gd_Trains_areAllowed_29 rfl (lv_at hl 2 rfl) ?_
            refine lv_iload_n hx hb gd_Trains_areAllowed_30 rfl (lv_at hl 1 rfl) ?_
            refine lv_isub hx hb gd_Trains_areAllowed_31 ?_
            refine lv_iconst (v := 1) hx hb gd_Trains_areAllowed_32 (by decide) ?_
            refine lv_iadd hx hb gd_Trains_areAllowed_33 ?_
            refine lv_topi (fun a10 e11 => ?_)
            have h := gf_nm_ok e11 h
            refine lv_istore_n (lv' := [(3, .int a10), (0, .int x0), (1, .int x1), (2, .int x2)]) hx hb gd_Trains_areAllowed_34 rfl hl (by decide) rfl (fun ls hl => ?_)
            refine lv_iload_n hx hb gd_Trains_areAllowed_35 rfl (lv_at hl 1 rfl) ?_
            refine lv_iconst (v := 3) hx hb gd_Trains_areAllowed_36 (by decide) ?_
            refine lv_icmp_ne (tgt := 46) hx hb gd_Trains_areAllowed_37 (by decide) (fun c12 => ?_) (fun c12 => ?_)
            · have h := gf_f c12 h
              exact gx_Trains_areAllowed_b46 F C hr hk  u x0 a10  hW (lv_sub hl [1, 0] rfl) h
            · have h := gf_t c12 h
              refine lv_iload_n hx hb gd_Trains_areAllowed_40 rfl (lv_at hl 0 rfl) ?_
              refine lv_bipush (v := 60) hx hb gd_Trains_areAllowed_41 (by decide) ?_
              refine lv_icmp_gt (tgt := 61) hx hb gd_Trains_areAllowed_43 (by decide) (fun c13 => ?_) (fun c13 => ?_)
              · have h := gf_t c13 h
                exact gx_Trains_areAllowed_b61 F C hr hk  u   hW (lv_sub hl [] rfl) h
              · have h := gf_f c13 h
                exact gx_Trains_areAllowed_b46 F C hr hk  u x0 a10  hW (lv_sub hl [1, 0] rfl) h
          · have h := gf_f c9 h
            exact gx_Trains_areAllowed_b27 F C hr hk  u   hW (lv_sub hl [] rfl) h

set_option maxRecDepth 20000 in
theorem gc_Trains_areAllowed (l : Launch) {D : va_G} {cA : Nat → ClassId} {hs : Nat → Nat} {z : gw_Sh} (F : Nat) {u : gw_St} {r0 : (Int32 × gw_St)} {x0 : Int32} {x1 : Int32} {x2 : Int32}  (h : gf_Trains_areAllowed F z u x0 x1 x2 = some r0) (sz : Nat) : gw_Mi l gy_Trains_areAllowed gb_Trains_areAllowed 4 (some .boolean) gr_Trains_areAllowed [.int x0, .int x1, .int x2] D cA hs z u sz r0 := by
  refine gw_enter (by decide) (Nat.le_of_ble_eq_true rfl) ?_
  intro p e s m below meth c ls hsz C hW hr hk _ hl
  subst hsz
  exact gx_Trains_areAllowed_b0 F C hr hk u x0 x1 x2  hW (lv_sub hl [0, 1, 2] rfl) h
-- GearDesk$Trains.begin(IIIII)I
theorem gk_133 : Cond.fieldLink R_Trains 33 R_Trains "stages" "I" ∈ gt_T := gt_m1 (List.mem_of_getElem? (i := 52) rfl) rfl
theorem gk_134 : Cond.fieldLink R_Trains 46 R_Trains "done" "I" ∈ gt_T := gt_m1 (List.mem_of_getElem? (i := 57) rfl) rfl
theorem gk_135 : Cond.fieldLink R_Trains 43 R_Trains "total" "I" ∈ gt_T := gt_m1 (List.mem_of_getElem? (i := 56) rfl) rfl
theorem gk_136 : Cond.fieldLink R_Trains 40 R_Trains "high" "I" ∈ gt_T := gt_m1 (List.mem_of_getElem? (i := 55) rfl) rfl
theorem gk_137 : Cond.fieldLink R_Trains 37 R_Trains "low" "I" ∈ gt_T := gt_m1 (List.mem_of_getElem? (i := 54) rfl) rfl
theorem gk_138 : Cond.fieldLink R_Trains 26 R_Trains "num" "J" ∈ gt_T := gt_m1 (List.mem_of_getElem? (i := 50) rfl) rfl
theorem gk_139 : Cond.fieldLink R_Trains 30 R_Trains "den" "J" ∈ gt_T := gt_m1 (List.mem_of_getElem? (i := 51) rfl) rfl
def gy_Trains_begin : MethodName := ⟨R_Trains, "begin", "(IIIII)I"⟩
abbrev gb_Trains_begin : ByteArray := prog_7_method_3_code
theorem gk_140 : Cond.code gy_Trains_begin gb_Trains_begin 7 (some .int) ∈ gt_T := gt_m2 (List.mem_of_getElem? (i := 231) rfl) rfl
def gr_Trains_begin : Room := gw_rm 1 64
theorem gm_Trains_begin : gw_Mth gy_Trains_begin gb_Trains_begin 7 (some .int) 5 := ⟨gk_140, gk_131, ⟨by decide +kernel, by decide +kernel⟩, by decide +kernel⟩
theorem gd_Trains_begin_0 : decode gb_Trains_begin 0 = .ok (.aload_n 0, 1) := by decide +kernel
theorem gd_Trains_begin_1 : decode gb_Trains_begin 1 = .ok (.iload_n 1, 1) := by decide +kernel
theorem gd_Trains_begin_2 : decode gb_Trains_begin 2 = .ok (.i2l, 1) := by decide +kernel
theorem gd_Trains_begin_3 : decode gb_Trains_begin 3 = .ok (.putfield 26, 3) := by decide +kernel
theorem gd_Trains_begin_6 : decode gb_Trains_begin 6 = .ok (.aload_n 0, 1) := by decide +kernel
theorem gd_Trains_begin_7 : decode gb_Trains_begin 7 = .ok (.iload_n 2, 1) := by decide +kernel
theorem gd_Trains_begin_8 : decode gb_Trains_begin 8 = .ok (.i2l, 1) := by decide +kernel
theorem gd_Trains_begin_9 : decode gb_Trains_begin 9 = .ok (.putfield 30, 3) := by decide +kernel
theorem gd_Trains_begin_12 : decode gb_Trains_begin 12 = .ok (.aload_n 0, 1) := by decide +kernel
theorem gd_Trains_begin_13 : decode gb_Trains_begin 13 = .ok (.iload_n 3, 1) := by decide +kernel
theorem gd_Trains_begin_14 : decode gb_Trains_begin 14 = .ok (.putfield 33, 3) := by decide +kernel
theorem gd_Trains_begin_17 : decode gb_Trains_begin 17 = .ok (.aload_n 0, 1) := by decide +kernel
theorem gd_Trains_begin_18 : decode gb_Trains_begin 18 = .ok (.iload 4, 2) := by decide +kernel
theorem gd_Trains_begin_20 : decode gb_Trains_begin 20 = .ok (.putfield 37, 3) := by decide +kernel
theorem gd_Trains_begin_23 : decode gb_Trains_begin 23 = .ok (.aload_n 0, 1) := by decide +kernel
theorem gd_Trains_begin_24 : decode gb_Trains_begin 24 = .ok (.iload 5, 2) := by decide +kernel
theorem gd_Trains_begin_26 : decode gb_Trains_begin 26 = .ok (.putfield 40, 3) := by decide +kernel
theorem gd_Trains_begin_29 : decode gb_Trains_begin 29 = .ok (.aload_n 0, 1) := by decide +kernel
theorem gd_Trains_begin_30 : decode gb_Trains_begin 30 = .ok (.iconst 1, 1) := by decide +kernel
theorem gd_Trains_begin_31 : decode gb_Trains_begin 31 = .ok (.putfield 43, 3) := by decide +kernel
theorem gd_Trains_begin_34 : decode gb_Trains_begin 34 = .ok (.iconst 1, 1) := by decide +kernel
theorem gd_Trains_begin_35 : decode gb_Trains_begin 35 = .ok (.istore 6, 2) := by decide +kernel
theorem gd_Trains_begin_37 : decode gb_Trains_begin 37 = .ok (.iload 6, 2) := by decide +kernel
theorem gd_Trains_begin_39 : decode gb_Trains_begin 39 = .ok (.aload_n 0, 1) := by decide +kernel
theorem gd_Trains_begin_40 : decode gb_Trains_begin 40 = .ok (.getfield 33, 3) := by decide +kernel
theorem gd_Trains_begin_43 : decode gb_Trains_begin 43 = .ok (.if_icmp .gt 33, 3) := by decide +kernel
theorem gd_Trains_begin_46 : decode gb_Trains_begin 46 = .ok (.aload_n 0, 1) := by decide +kernel
theorem gd_Trains_begin_47 : decode gb_Trains_begin 47 = .ok (.aload_n 0, 1) := by decide +kernel
theorem gd_Trains_begin_48 : decode gb_Trains_begin 48 = .ok (.getfield 43, 3) := by decide +kernel
theorem gd_Trains_begin_51 : decode gb_Trains_begin 51 = .ok (.aload_n 0, 1) := by decide +kernel
theorem gd_Trains_begin_52 : decode gb_Trains_begin 52 = .ok (.getfield 40, 3) := by decide +kernel
theorem gd_Trains_begin_55 : decode gb_Trains_begin 55 = .ok (.aload_n 0, 1) := by decide +kernel
theorem gd_Trains_begin_56 : decode gb_Trains_begin 56 = .ok (.getfield 37, 3) := by decide +kernel
theorem gd_Trains_begin_59 : decode gb_Trains_begin 59 = .ok (.isub, 1) := by decide +kernel
theorem gd_Trains_begin_60 : decode gb_Trains_begin 60 = .ok (.iload 6, 2) := by decide +kernel
theorem gd_Trains_begin_62 : decode gb_Trains_begin 62 = .ok (.iadd, 1) := by decide +kernel
theorem gd_Trains_begin_63 : decode gb_Trains_begin 63 = .ok (.imul, 1) := by decide +kernel
theorem gd_Trains_begin_64 : decode gb_Trains_begin 64 = .ok (.iload 6, 2) := by decide +kernel
theorem gd_Trains_begin_66 : decode gb_Trains_begin 66 = .ok (.idiv, 1) := by decide +kernel
theorem gd_Trains_begin_67 : decode gb_Trains_begin 67 = .ok (.putfield 43, 3) := by decide +kernel
theorem gd_Trains_begin_70 : decode gb_Trains_begin 70 = .ok (.iinc 6 1, 3) := by decide +kernel
theorem gd_Trains_begin_73 : decode gb_Trains_begin 73 = .ok (.goto (-36), 3) := by decide +kernel
theorem gd_Trains_begin_76 : decode gb_Trains_begin 76 = .ok (.aload_n 0, 1) := by decide +kernel
theorem gd_Trains_begin_77 : decode gb_Trains_begin 77 = .ok (.iconst 0, 1) := by decide +kernel
theorem gd_Trains_begin_78 : decode gb_Trains_begin 78 = .ok (.putfield 46, 3) := by decide +kernel
theorem gd_Trains_begin_81 : decode gb_Trains_begin 81 = .ok (.aload_n 0, 1) := by decide +kernel
theorem gd_Trains_begin_82 : decode gb_Trains_begin 82 = .ok (.getfield 43, 3) := by decide +kernel
theorem gd_Trains_begin_85 : decode gb_Trains_begin 85 = .ok (.ireturn, 1) := by decide +kernel
def gf_Trains_begin_S37 (F : Nat) (z : gw_Sh)  (rc_37 : gw_St → Nat → Int32 → Option (Int32 × gw_St)) (u : gw_St) (t0 : Nat) (x6 : Int32) : Option (Int32 × gw_St) :=
  if (u.1 t0 6) < x6 then (gf_nm (gw_wi u t0 10 (0 : Int32)) fun u2 => some ((u2.1 t0 9), u2)) else (if x6 = 0 then none else gf_nm (gw_wi u t0 9 (((u.1 t0 9) * (((u.1 t0 8) - (u.1 t0 7)) + x6)) / x6)) fun u5 => gf_nm (x6 + 1) fun a7 => rc_37 u5 t0 a7)
def gf_Trains_begin_L37 (F : Nat) (z : gw_Sh)  : Nat → gw_St → Nat → Int32 → Option (Int32 × gw_St)
  | 0 => fun _ _ _ => none
  | n + 1 => fun u t0 x6 => gf_Trains_begin_S37 F z  (gf_Trains_begin_L37 F z  n) u t0 x6
def gf_Trains_begin_b0 (F : Nat) (z : gw_Sh)  (u : gw_St) (t0 : Nat) (x1 : Int32) (x2 : Int32) (x3 : Int32) (x4 : Int32) (x5 : Int32) : Option (Int32 × gw_St) :=
  gf_nm (gw_wl u t0 4 ((x1).toInt64)) fun u9 => gf_nm (gw_wl u9 t0 5 ((x2).toInt64)) fun u11 => gf_nm (gw_wi u11 t0 6 x3) fun u13 => gf_nm (gw_wi u13 t0 7 x4) fun u15 => gf_nm (gw_wi u15 t0 8 x5) fun u17 => gf_nm (gw_wi u17 t0 9 (1 : Int32)) fun u19 => gf_Trains_begin_L37 F z  F u19 t0 1
def gf_Trains_begin (F : Nat) (z : gw_Sh) (u : gw_St) (t0 : Nat) (x1 : Int32) (x2 : Int32) (x3 : Int32) (x4 : Int32) (x5 : Int32) : Option (Int32 × gw_St) := gf_Trains_begin_b0 F z  u t0 x1 x2 x3 x4 x5
set_option maxHeartbeats 4000000 in
set_option maxRecDepth 20000 in
theorem gx_Trains_begin_S37 {p : Program} {l : Launch} {e : Env} {s : State} {m : MethodId} {args : Array Value} {below : List Frame} {meth : Method} {c : Code} {D : va_G} {cA : Nat → ClassId} {hs : Nat → Nat} {z : gw_Sh} (F : Nat) {r0 : (Int32 × gw_St)} (C : gw_Cx p s m args c gb_Trains_begin 7 R_Trains D cA) (hr : meth.sig.returnType = (some .int)) (hk : meth.locks = false) {rc_37 : gw_St → Nat → Int32 → Option (Int32 × gw_St)} (k_37 : ∀ (u : gw_St) (t0 : Nat) (x6 : Int32) (H : Heap) (locs : List Loc) (ls : Array Slot), gw_ok z t0 1 → gw_Wx D cA hs z s u H locs → lv_has ls 7 [(0, .ref (hs t0)), (6, .int x6)] → rc_37 u t0 x6 = some r0 → gw_Gi p l e gr_Trains_begin s m args below meth c D cA hs z r0 H locs ls 37 []) (u : gw_St) (t0 : Nat) (x6 : Int32) (o_t0 : gw_ok z t0 1) {H : Heap} {locs : List Loc} {ls : Array Slot} (hW : gw_Wx D cA hs z s u H locs) (hl : lv_has ls 7 [(0, .ref (hs t0)), (6, .int x6)]) (h : gf_Trains_begin_S37 F z  rc_37 u t0 x6 = some r0) : gw_Gi p l e gr_Trains_begin s m args below meth c D cA hs z r0 H locs ls 37 [] := by
  obtain ⟨hx, hb, hml, hown, hts, hK⟩ := id C
  unfold gf_Trains_begin_S37 at h
  refine lv_iload hx hb gd_Trains_begin_37 (lv_at hl 1 rfl) ?_
  refine lv_aload_n hx hb gd_Trains_begin_39 rfl (lv_at hl 0 rfl) ?_
  refine gw_geti (k := 6) (ref := R_Trains) C hW o_t0 (by decide) rfl gi_Trains rfl (by decide) rfl rfl gk_133 gd_Trains_begin_40 ?_
  refine lv_icmp_gt (tgt := 76) hx hb gd_Trains_begin_43 (by decide) (fun c1 => ?_) (fun c1 => ?_)
  · have h := gf_t c1 h
    refine lv_aload_n hx hb gd_Trains_begin_76 rfl (lv_at hl 0 rfl) ?_
    refine lv_iconst (v := 0) hx hb gd_Trains_begin_77 (by decide) ?_
    refine gw_puti (k := 10) (ref := R_Trains) (fty := .int) C hW o_t0 (by decide) rfl gi_Trains rfl (by decide) rfl rfl gk_134 tf_Trains tf_Trains_ok nm_Trains rfl rfl rfl rfl gd_Trains_begin_78 (fun u2 H locs e3 hW => ?_)
    have h := gf_nm_ok e3 h
    refine lv_aload_n hx hb gd_Trains_begin_81 rfl (lv_at hl 0 rfl) ?_
    refine gw_geti (k := 9) (ref := R_Trains) C hW o_t0 (by decide) rfl gi_Trains rfl (by decide) rfl rfl gk_135 gd_Trains_begin_82 ?_
    obtain rfl := Option.some.inj h
    exact gw_iret C hW hr hk gd_Trains_begin_85
  · have h := gf_f c1 h
    refine lv_aload_n hx hb gd_Trains_begin_46 rfl (lv_at hl 0 rfl) ?_
    refine lv_aload_n hx hb gd_Trains_begin_47 rfl (lv_at hl 0 rfl) ?_
    refine gw_geti (k := 9) (ref := R_Trains) C hW o_t0 (by decide) rfl gi_Trains rfl (by decide) rfl rfl gk_135 gd_Trains_begin_48 ?_
    refine lv_aload_n hx hb gd_Trains_begin_51 rfl (lv_at hl 0 rfl) ?_
    refine gw_geti (k := 8) (ref := R_Trains) C hW o_t0 (by decide) rfl gi_Trains rfl (by decide) rfl rfl gk_136 gd_Trains_begin_52 ?_
    refine lv_aload_n hx hb gd_Trains_begin_55 rfl (lv_at hl 0 rfl) ?_
    refine gw_geti (k := 7) (ref := R_Trains) C hW o_t0 (by decide) rfl gi_Trains rfl (by decide) rfl rfl gk_137 gd_Trains_begin_56 ?_
    refine lv_isub hx hb gd_Trains_begin_59 ?_
    refine lv_iload hx hb gd_Trains_begin_60 (lv_at hl 1 rfl) ?_
    refine lv_iadd hx hb gd_Trains_begin_62 ?_
    refine lv_imul hx hb gd_Trains_begin_63 ?_
    refine lv_iload hx hb gd_Trains_begin_64 (lv_at hl 1 rfl) ?_
    obtain ⟨g4, h⟩ := gf_if_ok h
    refine lv_idiv hx hb gd_Trains_begin_66 g4 ?_
    refine gw_puti (k := 9) (ref := R_Trains) (fty := .int) C hW o_t0 (by decide) rfl gi_Trains rfl (by decide) rfl rfl gk_135 tf_Trains tf_Trains_ok nm_Trains rfl rfl rfl rfl gd_Trains_begin_67 (fun u5 H locs e6 hW => ?_)
    have h := gf_nm_ok e6 h
    obtain ⟨a7, e8⟩ : ∃ y : Int32, y = x6 + 1 := ⟨_, rfl⟩
    have h := gf_nm_ok e8 h
    refine lv_iinc (v := a7) (lv' := [(6, .int a7), (0, .ref (hs t0))]) hx hb gd_Trains_begin_70 hl (k := 1) rfl (by rw [e8]; rfl) (by decide) rfl (fun ls hl => ?_)
    refine lv_goto (tgt := 37) hx hb gd_Trains_begin_73 (by decide) ?_
    exact k_37 u5 t0 a7 _ _ _ o_t0 hW (lv_sub hl [1, 0] rfl) h
set_option maxHeartbeats 4000000 in
set_option maxRecDepth 20000 in
theorem gx_Trains_begin_L37 {p : Program} {l : Launch} {e : Env} {s : State} {m : MethodId} {args : Array Value} {below : List Frame} {meth : Method} {c : Code} {D : va_G} {cA : Nat → ClassId} {hs : Nat → Nat} {z : gw_Sh} (F : Nat) {r0 : (Int32 × gw_St)} (C : gw_Cx p s m args c gb_Trains_begin 7 R_Trains D cA) (hr : meth.sig.returnType = (some .int)) (hk : meth.locks = false) : ∀ (n : Nat), ∀ (u : gw_St) (t0 : Nat) (x6 : Int32) (H : Heap) (locs : List Loc) (ls : Array Slot), gw_ok z t0 1 → gw_Wx D cA hs z s u H locs → lv_has ls 7 [(0, .ref (hs t0)), (6, .int x6)] → gf_Trains_begin_L37 F z  n u t0 x6 = some r0 → gw_Gi p l e gr_Trains_begin s m args below meth c D cA hs z r0 H locs ls 37 [] := by
  intro n
  induction n with
  | zero =>
    intro u t0 x6 H locs ls o_t0 hW hl h
    cases h
  | succ n ih =>
    intro u t0 x6 H locs ls o_t0 hW hl h
    exact gx_Trains_begin_S37 F C hr hk  ih u t0 x6 o_t0 hW hl h

set_option maxHeartbeats 4000000 in
set_option maxRecDepth 20000 in
theorem gx_Trains_begin_b0 {p : Program} {l : Launch} {e : Env} {s : State} {m : MethodId} {args : Array Value} {below : List Frame} {meth : Method} {c : Code} {D : va_G} {cA : Nat → ClassId} {hs : Nat → Nat} {z : gw_Sh} (F : Nat) {r0 : (Int32 × gw_St)} (C : gw_Cx p s m args c gb_Trains_begin 7 R_Trains D cA) (hr : meth.sig.returnType = (some .int)) (hk : meth.locks = false) (u : gw_St) (t0 : Nat) (x1 : Int32) (x2 : Int32) (x3 : Int32) (x4 : Int32) (x5 : Int32) (o_t0 : gw_ok z t0 1) {H : Heap} {locs : List Loc} {ls : Array Slot} (hW : gw_Wx D cA hs z s u H locs) (hl : lv_has ls 7 [(0, .ref (hs t0)), (1, .int x1), (2, .int x2), (3, .int x3), (4, .int x4), (5, .int x5)]) (h : gf_Trains_begin_b0 F z   u t0 x1 x2 x3 x4 x5 = some r0) : gw_Gi p l e gr_Trains_begin s m args below meth c D cA hs z r0 H locs ls 0 [] := by
  obtain ⟨hx, hb, hml, hown, hts, hK⟩ := id C
  unfold gf_Trains_begin_b0 at h
  refine lv_aload_n hx hb gd_Trains_begin_0 rfl (lv_at hl 0 rfl) ?_
  refine lv_iload_n hx hb gd_Trains_begin_1 rfl (lv_at hl 1 rfl) ?_
  refine lv_i2l hx hb gd_Trains_begin_2 rfl ?_
  refine gw_putl (k := 4) (ref := R_Trains) C hW o_t0 (by decide) rfl gi_Trains rfl (by decide) rfl rfl gk_138 tf_Trains tf_Trains_ok nm_Trains rfl rfl gd_Trains_begin_3 (fun u9 H locs e10 hW => ?_)
  have h := gf_nm_ok e10 h
  refine lv_aload_n hx hb gd_Trains_begin_6 rfl (lv_at hl 0 rfl) ?_
  refine lv_iload_n hx hb gd_Trains_begin_7 rfl (lv_at hl 2 rfl) ?_
  refine lv_i2l hx hb gd_Trains_begin_8 rfl ?_
  refine gw_putl (k := 5) (ref := R_Trains) C hW o_t0 (by decide) rfl gi_Trains rfl (by decide) rfl rfl gk_139 tf_Trains tf_Trains_ok nm_Trains rfl rfl gd_Trains_begin_9 (fun u11 H locs e12 hW => ?_)
  have h := gf_nm_ok e12 h
  refine lv_aload_n hx hb gd_Trains_begin_12 rfl (lv_at hl 0 rfl) ?_
  refine lv_iload_n hx hb gd_Trains_begin_13 rfl (lv_at hl 3 rfl) ?_
  refine gw_puti (k := 6) (ref := R_Trains) (fty := .int) C hW o_t0 (by decide) rfl gi_Trains rfl (by decide) rfl rfl gk_133 tf_Trains tf_Trains_ok nm_Trains rfl rfl rfl rfl gd_Trains_begin_14 (fun u13 H locs e14 hW => ?_)
  have h := gf_nm_ok e14 h
  refine lv_aload_n hx hb gd_Trains_begin_17 rfl (lv_at hl 0 rfl) ?_
  refine lv_iload hx hb gd_Trains_begin_18 (lv_at hl 4 rfl) ?_
  refine gw_puti (k := 7) (ref := R_Trains) (fty := .int) C hW o_t0 (by decide) rfl gi_Trains rfl (by decide) rfl rfl gk_137 tf_Trains tf_Trains_ok nm_Trains rfl rfl rfl rfl gd_Trains_begin_20 (fun u15 H locs e16 hW => ?_)
  have h := gf_nm_ok e16 h
  refine lv_aload_n hx hb gd_Trains_begin_23 rfl (lv_at hl 0 rfl) ?_
  refine lv_iload hx hb gd_Trains_begin_24 (lv_at hl 5 rfl) ?_
  refine gw_puti (k := 8) (ref := R_Trains) (fty := .int) C hW o_t0 (by decide) rfl gi_Trains rfl (by decide) rfl rfl gk_136 tf_Trains tf_Trains_ok nm_Trains rfl rfl rfl rfl gd_Trains_begin_26 (fun u17 H locs e18 hW => ?_)
  have h := gf_nm_ok e18 h
  refine lv_aload_n hx hb gd_Trains_begin_29 rfl (lv_at hl 0 rfl) ?_
  refine lv_iconst (v := 1) hx hb gd_Trains_begin_30 (by decide) ?_
  refine gw_puti (k := 9) (ref := R_Trains) (fty := .int) C hW o_t0 (by decide) rfl gi_Trains rfl (by decide) rfl rfl gk_135 tf_Trains tf_Trains_ok nm_Trains rfl rfl rfl rfl gd_Trains_begin_31 (fun u19 H locs e20 hW => ?_)
  have h := gf_nm_ok e20 h
  refine lv_iconst (v := 1) hx hb gd_Trains_begin_34 (by decide) ?_
  refine lv_istore (lv' := [(6, .int 1), (0, .ref (hs t0)), (1, .int x1), (2, .int x2), (3, .int x3), (4, .int x4), (5, .int x5)]) hx hb gd_Trains_begin_35 hl (by decide) rfl (fun ls hl => ?_)
  exact gx_Trains_begin_L37 F C hr hk  F u19 t0 1 _ _ _ o_t0 hW (lv_sub hl [1, 0] rfl) h

set_option maxRecDepth 20000 in
theorem gc_Trains_begin (l : Launch) {D : va_G} {cA : Nat → ClassId} {hs : Nat → Nat} {z : gw_Sh} (F : Nat) {u : gw_St} {r0 : (Int32 × gw_St)} {t0 : Nat} {x1 : Int32} {x2 : Int32} {x3 : Int32} {x4 : Int32} {x5 : Int32} (o_t0 : gw_ok z t0 1) (h : gf_Trains_begin F z u t0 x1 x2 x3 x4 x5 = some r0) (sz : Nat) : gw_Mi l gy_Trains_begin gb_Trains_begin 7 (some .int) gr_Trains_begin [.ref (hs t0), .int x1, .int x2, .int x3, .int x4, .int x5] D cA hs z u sz r0 := by
  refine gw_enter (by decide) (Nat.le_of_ble_eq_true rfl) ?_
  intro p e s m below meth c ls hsz C hW hr hk _ hl
  subst hsz
  exact gx_Trains_begin_b0 F C hr hk u t0 x1 x2 x3 x4 x5 o_t0 hW (lv_sub hl [0, 1, 2, 3, 4, 5] rfl) h
-- GearDesk$Trains.hasTask()Z
def gy_Trains_hasTask : MethodName := ⟨R_Trains, "hasTask", "()Z"⟩
abbrev gb_Trains_hasTask : ByteArray := prog_7_method_4_code
theorem gk_141 : Cond.code gy_Trains_hasTask gb_Trains_hasTask 1 (some .boolean) ∈ gt_T := gt_m3 (List.mem_of_getElem? (i := 4) rfl) rfl
def gr_Trains_hasTask : Room := gw_rm 1 64
theorem gm_Trains_hasTask : gw_Mth gy_Trains_hasTask gb_Trains_hasTask 1 (some .boolean) 0 := ⟨gk_141, gk_131, ⟨by decide +kernel, by decide +kernel⟩, by decide +kernel⟩
theorem gd_Trains_hasTask_0 : decode gb_Trains_hasTask 0 = .ok (.aload_n 0, 1) := by decide +kernel
theorem gd_Trains_hasTask_1 : decode gb_Trains_hasTask 1 = .ok (.getfield 43, 3) := by decide +kernel
theorem gd_Trains_hasTask_4 : decode gb_Trains_hasTask 4 = .ok (.ifCond .le 7, 3) := by decide +kernel
theorem gd_Trains_hasTask_7 : decode gb_Trains_hasTask 7 = .ok (.iconst 1, 1) := by decide +kernel
theorem gd_Trains_hasTask_8 : decode gb_Trains_hasTask 8 = .ok (.goto 4, 3) := by decide +kernel
theorem gd_Trains_hasTask_11 : decode gb_Trains_hasTask 11 = .ok (.iconst 0, 1) := by decide +kernel
theorem gd_Trains_hasTask_12 : decode gb_Trains_hasTask 12 = .ok (.ireturn, 1) := by decide +kernel
def gf_Trains_hasTask_b12 (F : Nat) (z : gw_Sh)  (u : gw_St) (sx0 : Int32) : Option (Int32 × gw_St) :=
  if ¬ (sx0 &&& 1 = sx0) then none else some (sx0, u)
def gf_Trains_hasTask_b0 (F : Nat) (z : gw_Sh)  (u : gw_St) (t0 : Nat) : Option (Int32 × gw_St) :=
  if (u.1 t0 9) ≤ 0 then (gf_Trains_hasTask_b12 F z  u 0) else (gf_Trains_hasTask_b12 F z  u 1)
def gf_Trains_hasTask (F : Nat) (z : gw_Sh) (u : gw_St) (t0 : Nat) : Option (Int32 × gw_St) := gf_Trains_hasTask_b0 F z  u t0
set_option maxHeartbeats 4000000 in
set_option maxRecDepth 20000 in
theorem gx_Trains_hasTask_b12 {p : Program} {l : Launch} {e : Env} {s : State} {m : MethodId} {args : Array Value} {below : List Frame} {meth : Method} {c : Code} {D : va_G} {cA : Nat → ClassId} {hs : Nat → Nat} {z : gw_Sh} (F : Nat) {r0 : (Int32 × gw_St)} (C : gw_Cx p s m args c gb_Trains_hasTask 1 R_Trains D cA) (hr : meth.sig.returnType = (some .boolean)) (hk : meth.locks = false) (u : gw_St) (sx0 : Int32)  {H : Heap} {locs : List Loc} {ls : Array Slot} (hW : gw_Wx D cA hs z s u H locs) (hl : lv_has ls 1 []) (h : gf_Trains_hasTask_b12 F z   u sx0 = some r0) : gw_Gi p l e gr_Trains_hasTask s m args below meth c D cA hs z r0 H locs ls 12 [.int sx0] := by
  obtain ⟨hx, hb, hml, hown, hts, hK⟩ := id C
  unfold gf_Trains_hasTask_b12 at h
  obtain ⟨g1, h⟩ := gf_if_ok h
  obtain rfl := Option.some.inj h
  exact gw_zret C hW hr (Decidable.not_not.mp g1) hk gd_Trains_hasTask_12

set_option maxHeartbeats 4000000 in
set_option maxRecDepth 20000 in
theorem gx_Trains_hasTask_b0 {p : Program} {l : Launch} {e : Env} {s : State} {m : MethodId} {args : Array Value} {below : List Frame} {meth : Method} {c : Code} {D : va_G} {cA : Nat → ClassId} {hs : Nat → Nat} {z : gw_Sh} (F : Nat) {r0 : (Int32 × gw_St)} (C : gw_Cx p s m args c gb_Trains_hasTask 1 R_Trains D cA) (hr : meth.sig.returnType = (some .boolean)) (hk : meth.locks = false) (u : gw_St) (t0 : Nat) (o_t0 : gw_ok z t0 1) {H : Heap} {locs : List Loc} {ls : Array Slot} (hW : gw_Wx D cA hs z s u H locs) (hl : lv_has ls 1 [(0, .ref (hs t0))]) (h : gf_Trains_hasTask_b0 F z   u t0 = some r0) : gw_Gi p l e gr_Trains_hasTask s m args below meth c D cA hs z r0 H locs ls 0 [] := by
  obtain ⟨hx, hb, hml, hown, hts, hK⟩ := id C
  unfold gf_Trains_hasTask_b0 at h
  refine lv_aload_n hx hb gd_Trains_hasTask_0 rfl (lv_at hl 0 rfl) ?_
  refine gw_geti (k := 9) (ref := R_Trains) C hW o_t0 (by decide) rfl gi_Trains rfl (by decide) rfl rfl gk_135 gd_Trains_hasTask_1 ?_
  refine lv_if_le (tgt := 11) hx hb gd_Trains_hasTask_4 (by decide) (fun c2 => ?_) (fun c2 => ?_)
  · have h := gf_t c2 h
    refine lv_iconst (v := 0) hx hb gd_Trains_hasTask_11 (by decide) ?_
    exact gx_Trains_hasTask_b12 F C hr hk  u 0  hW (lv_sub hl [] rfl) h
  · have h := gf_f c2 h
    refine lv_iconst (v := 1) hx hb gd_Trains_hasTask_7 (by decide) ?_
    refine lv_goto (tgt := 12) hx hb gd_Trains_hasTask_8 (by decide) ?_
    exact gx_Trains_hasTask_b12 F C hr hk  u 1  hW (lv_sub hl [] rfl) h

set_option maxRecDepth 20000 in
theorem gc_Trains_hasTask (l : Launch) {D : va_G} {cA : Nat → ClassId} {hs : Nat → Nat} {z : gw_Sh} (F : Nat) {u : gw_St} {r0 : (Int32 × gw_St)} {t0 : Nat} (o_t0 : gw_ok z t0 1) (h : gf_Trains_hasTask F z u t0 = some r0) (sz : Nat) : gw_Mi l gy_Trains_hasTask gb_Trains_hasTask 1 (some .boolean) gr_Trains_hasTask [.ref (hs t0)] D cA hs z u sz r0 := by
  refine gw_enter (by decide) (Nat.le_of_ble_eq_true rfl) ?_
  intro p e s m below meth c ls hsz C hW hr hk _ hl
  subst hsz
  exact gx_Trains_hasTask_b0 F C hr hk u t0 o_t0 hW (lv_sub hl [0] rfl) h
-- GearDesk$Trains.choicesLeft()I
def gy_Trains_choicesLeft : MethodName := ⟨R_Trains, "choicesLeft", "()I"⟩
abbrev gb_Trains_choicesLeft : ByteArray := prog_7_method_5_code
theorem gk_142 : Cond.code gy_Trains_choicesLeft gb_Trains_choicesLeft 1 (some .int) ∈ gt_T := gt_m2 (List.mem_of_getElem? (i := 150) rfl) rfl
def gr_Trains_choicesLeft : Room := gw_rm 1 64
theorem gm_Trains_choicesLeft : gw_Mth gy_Trains_choicesLeft gb_Trains_choicesLeft 1 (some .int) 0 := ⟨gk_142, gk_131, ⟨by decide +kernel, by decide +kernel⟩, by decide +kernel⟩
theorem gd_Trains_choicesLeft_0 : decode gb_Trains_choicesLeft 0 = .ok (.aload_n 0, 1) := by decide +kernel
theorem gd_Trains_choicesLeft_1 : decode gb_Trains_choicesLeft 1 = .ok (.getfield 43, 3) := by decide +kernel
theorem gd_Trains_choicesLeft_4 : decode gb_Trains_choicesLeft 4 = .ok (.aload_n 0, 1) := by decide +kernel
theorem gd_Trains_choicesLeft_5 : decode gb_Trains_choicesLeft 5 = .ok (.getfield 46, 3) := by decide +kernel
theorem gd_Trains_choicesLeft_8 : decode gb_Trains_choicesLeft 8 = .ok (.isub, 1) := by decide +kernel
theorem gd_Trains_choicesLeft_9 : decode gb_Trains_choicesLeft 9 = .ok (.ireturn, 1) := by decide +kernel
def gf_Trains_choicesLeft_b0 (F : Nat) (z : gw_Sh)  (u : gw_St) (t0 : Nat) : Option (Int32 × gw_St) :=
  some (((u.1 t0 9) - (u.1 t0 10)), u)
def gf_Trains_choicesLeft (F : Nat) (z : gw_Sh) (u : gw_St) (t0 : Nat) : Option (Int32 × gw_St) := gf_Trains_choicesLeft_b0 F z  u t0
set_option maxHeartbeats 4000000 in
set_option maxRecDepth 20000 in
theorem gx_Trains_choicesLeft_b0 {p : Program} {l : Launch} {e : Env} {s : State} {m : MethodId} {args : Array Value} {below : List Frame} {meth : Method} {c : Code} {D : va_G} {cA : Nat → ClassId} {hs : Nat → Nat} {z : gw_Sh} (F : Nat) {r0 : (Int32 × gw_St)} (C : gw_Cx p s m args c gb_Trains_choicesLeft 1 R_Trains D cA) (hr : meth.sig.returnType = (some .int)) (hk : meth.locks = false) (u : gw_St) (t0 : Nat) (o_t0 : gw_ok z t0 1) {H : Heap} {locs : List Loc} {ls : Array Slot} (hW : gw_Wx D cA hs z s u H locs) (hl : lv_has ls 1 [(0, .ref (hs t0))]) (h : gf_Trains_choicesLeft_b0 F z   u t0 = some r0) : gw_Gi p l e gr_Trains_choicesLeft s m args below meth c D cA hs z r0 H locs ls 0 [] := by
  obtain ⟨hx, hb, hml, hown, hts, hK⟩ := id C
  unfold gf_Trains_choicesLeft_b0 at h
  refine lv_aload_n hx hb gd_Trains_choicesLeft_0 rfl (lv_at hl 0 rfl) ?_
  refine gw_geti (k := 9) (ref := R_Trains) C hW o_t0 (by decide) rfl gi_Trains rfl (by decide) rfl rfl gk_135 gd_Trains_choicesLeft_1 ?_
  refine lv_aload_n hx hb gd_Trains_choicesLeft_4 rfl (lv_at hl 0 rfl) ?_
  refine gw_geti (k := 10) (ref := R_Trains) C hW o_t0 (by decide) rfl gi_Trains rfl (by decide) rfl rfl gk_134 gd_Trains_choicesLeft_5 ?_
  refine lv_isub hx hb gd_Trains_choicesLeft_8 ?_
  obtain rfl := Option.some.inj h
  exact gw_iret C hW hr hk gd_Trains_choicesLeft_9

set_option maxRecDepth 20000 in
theorem gc_Trains_choicesLeft (l : Launch) {D : va_G} {cA : Nat → ClassId} {hs : Nat → Nat} {z : gw_Sh} (F : Nat) {u : gw_St} {r0 : (Int32 × gw_St)} {t0 : Nat} (o_t0 : gw_ok z t0 1) (h : gf_Trains_choicesLeft F z u t0 = some r0) (sz : Nat) : gw_Mi l gy_Trains_choicesLeft gb_Trains_choicesLeft 1 (some .int) gr_Trains_choicesLeft [.ref (hs t0)] D cA hs z u sz r0 := by
  refine gw_enter (by decide) (Nat.le_of_ble_eq_true rfl) ?_
  intro p e s m below meth c ls hsz C hW hr hk _ hl
  subst hsz
  exact gx_Trains_choicesLeft_b0 F C hr hk u t0 o_t0 hW (lv_sub hl [0] rfl) h
-- GearDesk$Trains.stepWheels()V
theorem gk_143 : Cond.fieldLink R_Trains 23 R_Trains "wheels" "[I" ∈ gt_T := gt_m1 (List.mem_of_getElem? (i := 49) rfl) rfl
theorem gk_144 : Cond.methodLink R_Trains 107 gy_Arrays_fill2 ∈ gt_T := gt_m3 (List.mem_of_getElem? (i := 37) rfl) rfl
def gy_Trains_stepWheels : MethodName := ⟨R_Trains, "stepWheels", "()V"⟩
abbrev gb_Trains_stepWheels : ByteArray := prog_7_method_11_code
theorem gk_145 : Cond.code gy_Trains_stepWheels gb_Trains_stepWheels 2 none ∈ gt_T := gt_m3 (List.mem_of_getElem? (i := 36) rfl) rfl
def gr_Trains_stepWheels : Room := gw_rm 3 110
theorem gm_Trains_stepWheels : gw_Mth gy_Trains_stepWheels gb_Trains_stepWheels 2 none 0 := ⟨gk_145, gk_131, ⟨by decide +kernel, by decide +kernel⟩, by decide +kernel⟩
theorem gd_Trains_stepWheels_0 : decode gb_Trains_stepWheels 0 = .ok (.aload_n 0, 1) := by decide +kernel
theorem gd_Trains_stepWheels_1 : decode gb_Trains_stepWheels 1 = .ok (.getfield 33, 3) := by decide +kernel
theorem gd_Trains_stepWheels_4 : decode gb_Trains_stepWheels 4 = .ok (.iconst 1, 1) := by decide +kernel
theorem gd_Trains_stepWheels_5 : decode gb_Trains_stepWheels 5 = .ok (.isub, 1) := by decide +kernel
theorem gd_Trains_stepWheels_6 : decode gb_Trains_stepWheels 6 = .ok (.istore_n 1, 1) := by decide +kernel
theorem gd_Trains_stepWheels_7 : decode gb_Trains_stepWheels 7 = .ok (.iload_n 1, 1) := by decide +kernel
theorem gd_Trains_stepWheels_8 : decode gb_Trains_stepWheels 8 = .ok (.ifCond .le 22, 3) := by decide +kernel
theorem gd_Trains_stepWheels_11 : decode gb_Trains_stepWheels 11 = .ok (.aload_n 0, 1) := by decide +kernel
theorem gd_Trains_stepWheels_12 : decode gb_Trains_stepWheels 12 = .ok (.getfield 23, 3) := by decide +kernel
theorem gd_Trains_stepWheels_15 : decode gb_Trains_stepWheels 15 = .ok (.iload_n 1, 1) := by decide +kernel
theorem gd_Trains_stepWheels_16 : decode gb_Trains_stepWheels 16 = .ok (.iaload, 1) := by decide +kernel
theorem gd_Trains_stepWheels_17 : decode gb_Trains_stepWheels 17 = .ok (.aload_n 0, 1) := by decide +kernel
theorem gd_Trains_stepWheels_18 : decode gb_Trains_stepWheels 18 = .ok (.getfield 40, 3) := by decide +kernel
theorem gd_Trains_stepWheels_21 : decode gb_Trains_stepWheels 21 = .ok (.if_icmp .ne 9, 3) := by decide +kernel
theorem gd_Trains_stepWheels_24 : decode gb_Trains_stepWheels 24 = .ok (.iinc 1 (-1), 3) := by decide +kernel
theorem gd_Trains_stepWheels_27 : decode gb_Trains_stepWheels 27 = .ok (.goto (-20), 3) := by decide +kernel
theorem gd_Trains_stepWheels_30 : decode gb_Trains_stepWheels 30 = .ok (.aload_n 0, 1) := by decide +kernel
theorem gd_Trains_stepWheels_31 : decode gb_Trains_stepWheels 31 = .ok (.getfield 23, 3) := by decide +kernel
theorem gd_Trains_stepWheels_34 : decode gb_Trains_stepWheels 34 = .ok (.iload_n 1, 1) := by decide +kernel
theorem gd_Trains_stepWheels_35 : decode gb_Trains_stepWheels 35 = .ok (.aload_n 0, 1) := by decide +kernel
theorem gd_Trains_stepWheels_36 : decode gb_Trains_stepWheels 36 = .ok (.getfield 33, 3) := by decide +kernel
theorem gd_Trains_stepWheels_39 : decode gb_Trains_stepWheels 39 = .ok (.aload_n 0, 1) := by decide +kernel
theorem gd_Trains_stepWheels_40 : decode gb_Trains_stepWheels 40 = .ok (.getfield 23, 3) := by decide +kernel
theorem gd_Trains_stepWheels_43 : decode gb_Trains_stepWheels 43 = .ok (.iload_n 1, 1) := by decide +kernel
theorem gd_Trains_stepWheels_44 : decode gb_Trains_stepWheels 44 = .ok (.iaload, 1) := by decide +kernel
theorem gd_Trains_stepWheels_45 : decode gb_Trains_stepWheels 45 = .ok (.iconst 1, 1) := by decide +kernel
theorem gd_Trains_stepWheels_46 : decode gb_Trains_stepWheels 46 = .ok (.iadd, 1) := by decide +kernel
theorem gd_Trains_stepWheels_47 : decode gb_Trains_stepWheels 47 = .ok (.invokestatic 107, 3) := by decide +kernel
theorem gd_Trains_stepWheels_50 : decode gb_Trains_stepWheels 50 = .ok (.return_, 1) := by decide +kernel
def gf_Trains_stepWheels_b30 (F : Nat) (z : gw_Sh)  (u : gw_St) (t0 : Nat) (x1 : Int32) : Option gw_St :=
  gf_nn (u.2.2 t0 3) fun q1 => gf_nn (u.2.2 t0 3) fun q3 => if (x1 < 0 ∨ z.2.2 q3 ≤ (x1).toNatClampNeg) then none else (gf_Arrays_fill2 F z u q1 x1 (u.1 t0 6) ((u.1 q3 (x1).toNatClampNeg) + (1 : Int32))).bind fun u6 => some u6
def gf_Trains_stepWheels_S7 (F : Nat) (z : gw_Sh)  (rc_7 : gw_St → Nat → Int32 → Option gw_St) (u : gw_St) (t0 : Nat) (x1 : Int32) : Option gw_St :=
  if x1 ≤ 0 then (gf_Trains_stepWheels_b30 F z  u t0 x1) else (gf_nn (u.2.2 t0 3) fun q9 => if (x1 < 0 ∨ z.2.2 q9 ≤ (x1).toNatClampNeg) then none else if (u.1 q9 (x1).toNatClampNeg) = (u.1 t0 8) then (gf_nm (x1 + (-1)) fun a13 => rc_7 u t0 a13) else (gf_Trains_stepWheels_b30 F z  u t0 x1))
def gf_Trains_stepWheels_L7 (F : Nat) (z : gw_Sh)  : Nat → gw_St → Nat → Int32 → Option gw_St
  | 0 => fun _ _ _ => none
  | n + 1 => fun u t0 x1 => gf_Trains_stepWheels_S7 F z  (gf_Trains_stepWheels_L7 F z  n) u t0 x1
def gf_Trains_stepWheels_b0 (F : Nat) (z : gw_Sh)  (u : gw_St) (t0 : Nat) : Option gw_St :=
  gf_nm ((u.1 t0 6) - (1 : Int32)) fun a15 => gf_Trains_stepWheels_L7 F z  F u t0 a15
def gf_Trains_stepWheels (F : Nat) (z : gw_Sh) (u : gw_St) (t0 : Nat) : Option gw_St := gf_Trains_stepWheels_b0 F z  u t0
set_option maxHeartbeats 4000000 in
set_option maxRecDepth 20000 in
theorem gx_Trains_stepWheels_b30 {p : Program} {l : Launch} {e : Env} {s : State} {m : MethodId} {args : Array Value} {below : List Frame} {meth : Method} {c : Code} {D : va_G} {cA : Nat → ClassId} {hs : Nat → Nat} {z : gw_Sh} (F : Nat) {r0 : gw_St} (C : gw_Cx p s m args c gb_Trains_stepWheels 2 R_Trains D cA) (hr : meth.sig.returnType = none) (hk : meth.locks = false) (u : gw_St) (t0 : Nat) (x1 : Int32) (o_t0 : gw_ok z t0 1) {H : Heap} {locs : List Loc} {ls : Array Slot} (hW : gw_Wx D cA hs z s u H locs) (hl : lv_has ls 2 [(0, .ref (hs t0)), (1, .int x1)]) (h : gf_Trains_stepWheels_b30 F z   u t0 x1 = some r0) : gw_Gv p l e gr_Trains_stepWheels s m args below meth c D cA hs z r0 H locs ls 30 [] := by
  obtain ⟨hx, hb, hml, hown, hts, hK⟩ := id C
  unfold gf_Trains_stepWheels_b30 at h
  refine lv_aload_n hx hb gd_Trains_stepWheels_30 rfl (lv_at hl 0 rfl) ?_
  obtain ⟨q1, e2, h⟩ := gf_nn_ok h
  refine gw_getr (k := 3) (ty := 10) (ref := R_Trains) C hW o_t0 (by decide) rfl gi_Trains rfl (by decide) rfl rfl gk_143 gd_Trains_stepWheels_31 e2 ?_
  have o_q1 := hW.ref (d := 10) o_t0 e2 rfl
  refine lv_iload_n hx hb gd_Trains_stepWheels_34 rfl (lv_at hl 1 rfl) ?_
  refine lv_aload_n hx hb gd_Trains_stepWheels_35 rfl (lv_at hl 0 rfl) ?_
  refine gw_geti (k := 6) (ref := R_Trains) C hW o_t0 (by decide) rfl gi_Trains rfl (by decide) rfl rfl gk_133 gd_Trains_stepWheels_36 ?_
  refine lv_aload_n hx hb gd_Trains_stepWheels_39 rfl (lv_at hl 0 rfl) ?_
  obtain ⟨q3, e4, h⟩ := gf_nn_ok h
  refine gw_getr (k := 3) (ty := 10) (ref := R_Trains) C hW o_t0 (by decide) rfl gi_Trains rfl (by decide) rfl rfl gk_143 gd_Trains_stepWheels_40 e4 ?_
  have o_q3 := hW.ref (d := 10) o_t0 e4 rfl
  refine lv_iload_n hx hb gd_Trains_stepWheels_43 rfl (lv_at hl 1 rfl) ?_
  obtain ⟨g5, h⟩ := gf_if_ok h
  refine gw_iald C hW o_q3 g5 gd_Trains_stepWheels_44 ?_
  refine lv_iconst (v := 1) hx hb gd_Trains_stepWheels_45 (by decide) ?_
  refine lv_iadd hx hb gd_Trains_stepWheels_46 ?_
  obtain ⟨u6, d7, h⟩ := gf_bd_ok h
  refine gw_callSv (As := [.ref (hs q1), .int x1, .int (u.1 t0 6), .int ((u.1 q3 (x1).toNatClampNeg) + (1 : Int32))]) (rest := []) C hW (fun _ h => Or.inr h) hl.1 gm_Arrays_fill2 (gc_Arrays_fill2 l F o_q1 d7 _) gk_144 gk_39 rfl rfl ⟨Nat.le_of_ble_eq_true rfl, Nat.le_of_ble_eq_true rfl⟩ ⟨Nat.zero_le _, Nat.zero_le _⟩ rfl rfl (Nat.le_of_ble_eq_true rfl) gd_Trains_stepWheels_47 (fun H locs hW => ?_)
  obtain rfl := Option.some.inj h
  exact gw_vret C hW hr hk gd_Trains_stepWheels_50

set_option maxHeartbeats 4000000 in
set_option maxRecDepth 20000 in
theorem gx_Trains_stepWheels_S7 {p : Program} {l : Launch} {e : Env} {s : State} {m : MethodId} {args : Array Value} {below : List Frame} {meth : Method} {c : Code} {D : va_G} {cA : Nat → ClassId} {hs : Nat → Nat} {z : gw_Sh} (F : Nat) {r0 : gw_St} (C : gw_Cx p s m args c gb_Trains_stepWheels 2 R_Trains D cA) (hr : meth.sig.returnType = none) (hk : meth.locks = false) {rc_7 : gw_St → Nat → Int32 → Option gw_St} (k_7 : ∀ (u : gw_St) (t0 : Nat) (x1 : Int32) (H : Heap) (locs : List Loc) (ls : Array Slot), gw_ok z t0 1 → gw_Wx D cA hs z s u H locs → lv_has ls 2 [(0, .ref (hs t0)), (1, .int x1)] → rc_7 u t0 x1 = some r0 → gw_Gv p l e gr_Trains_stepWheels s m args below meth c D cA hs z r0 H locs ls 7 []) (u : gw_St) (t0 : Nat) (x1 : Int32) (o_t0 : gw_ok z t0 1) {H : Heap} {locs : List Loc} {ls : Array Slot} (hW : gw_Wx D cA hs z s u H locs) (hl : lv_has ls 2 [(0, .ref (hs t0)), (1, .int x1)]) (h : gf_Trains_stepWheels_S7 F z  rc_7 u t0 x1 = some r0) : gw_Gv p l e gr_Trains_stepWheels s m args below meth c D cA hs z r0 H locs ls 7 [] := by
  obtain ⟨hx, hb, hml, hown, hts, hK⟩ := id C
  unfold gf_Trains_stepWheels_S7 at h
  refine lv_iload_n hx hb gd_Trains_stepWheels_7 rfl (lv_at hl 1 rfl) ?_
  refine lv_if_le (tgt := 30) hx hb gd_Trains_stepWheels_8 (by decide) (fun c8 => ?_) (fun c8 => ?_)
  · have h := gf_t c8 h
    exact gx_Trains_stepWheels_b30 F C hr hk  u t0 x1 o_t0 hW (lv_sub hl [0, 1] rfl) h
  · have h := gf_f c8 h
    refine lv_aload_n hx hb gd_Trains_stepWheels_11 rfl (lv_at hl 0 rfl) ?_
    obtain ⟨q9, e10, h⟩ := gf_nn_ok h
    refine gw_getr (k := 3) (ty := 10) (ref := R_Trains) C hW o_t0 (by decide) rfl gi_Trains rfl (by decide) rfl rfl gk_143 gd_Trains_stepWheels_12 e10 ?_
    have o_q9 := hW.ref (d := 10) o_t0 e10 rfl
    refine lv_iload_n hx hb gd_Trains_stepWheels_15 rfl (lv_at hl 1 rfl) ?_
    obtain ⟨g11, h⟩ := gf_if_ok h
    refine gw_iald C hW o_q9 g11 gd_Trains_stepWheels_16 ?_
    refine lv_aload_n hx hb gd_Trains_stepWheels_17 rfl (lv_at hl 0 rfl) ?_
    refine gw_geti (k := 8) (ref := R_Trains) C hW o_t0 (by decide) rfl gi_Trains rfl (by decide) rfl rfl gk_136 gd_Trains_stepWheels_18 ?_
    refine lv_icmp_ne (tgt := 30) hx hb gd_Trains_stepWheels_21 (by decide) (fun c12 => ?_) (fun c12 => ?_)
    · have h := gf_f c12 h
      exact gx_Trains_stepWheels_b30 F C hr hk  u t0 x1 o_t0 hW (lv_sub hl [0, 1] rfl) h
    · have h := gf_t c12 h
      obtain ⟨a13, e14⟩ : ∃ y : Int32, y = x1 + (-1) := ⟨_, rfl⟩
      have h := gf_nm_ok e14 h
      refine lv_iinc (v := a13) (lv' := [(1, .int a13), (0, .ref (hs t0))]) hx hb gd_Trains_stepWheels_24 hl (k := 1) rfl (by rw [e14]; rfl) (by decide) rfl (fun ls hl => ?_)
      refine lv_goto (tgt := 7) hx hb gd_Trains_stepWheels_27 (by decide) ?_
      exact k_7 u t0 a13 _ _ _ o_t0 hW (lv_sub hl [1, 0] rfl) h
set_option maxHeartbeats 4000000 in
set_option maxRecDepth 20000 in
theorem gx_Trains_stepWheels_L7 {p : Program} {l : Launch} {e : Env} {s : State} {m : MethodId} {args : Array Value} {below : List Frame} {meth : Method} {c : Code} {D : va_G} {cA : Nat → ClassId} {hs : Nat → Nat} {z : gw_Sh} (F : Nat) {r0 : gw_St} (C : gw_Cx p s m args c gb_Trains_stepWheels 2 R_Trains D cA) (hr : meth.sig.returnType = none) (hk : meth.locks = false) : ∀ (n : Nat), ∀ (u : gw_St) (t0 : Nat) (x1 : Int32) (H : Heap) (locs : List Loc) (ls : Array Slot), gw_ok z t0 1 → gw_Wx D cA hs z s u H locs → lv_has ls 2 [(0, .ref (hs t0)), (1, .int x1)] → gf_Trains_stepWheels_L7 F z  n u t0 x1 = some r0 → gw_Gv p l e gr_Trains_stepWheels s m args below meth c D cA hs z r0 H locs ls 7 [] := by
  intro n
  induction n with
  | zero =>
    intro u t0 x1 H locs ls o_t0 hW hl h
    cases h
  | succ n ih =>
    intro u t0 x1 H locs ls o_t0 hW hl h
    exact gx_Trains_stepWheels_S7 F C hr hk  ih u t0 x1 o_t0 hW hl h

set_option maxHeartbeats 4000000 in
set_option maxRecDepth 20000 in
theorem gx_Trains_stepWheels_b0 {p : Program} {l : Launch} {e : Env} {s : State} {m : MethodId} {args : Array Value} {below : List Frame} {meth : Method} {c : Code} {D : va_G} {cA : Nat → ClassId} {hs : Nat → Nat} {z : gw_Sh} (F : Nat) {r0 : gw_St} (C : gw_Cx p s m args c gb_Trains_stepWheels 2 R_Trains D cA) (hr : meth.sig.returnType = none) (hk : meth.locks = false) (u : gw_St) (t0 : Nat) (o_t0 : gw_ok z t0 1) {H : Heap} {locs : List Loc} {ls : Array Slot} (hW : gw_Wx D cA hs z s u H locs) (hl : lv_has ls 2 [(0, .ref (hs t0))]) (h : gf_Trains_stepWheels_b0 F z   u t0 = some r0) : gw_Gv p l e gr_Trains_stepWheels s m args below meth c D cA hs z r0 H locs ls 0 [] := by
  obtain ⟨hx, hb, hml, hown, hts, hK⟩ := id C
  unfold gf_Trains_stepWheels_b0 at h
  refine lv_aload_n hx hb gd_Trains_stepWheels_0 rfl (lv_at hl 0 rfl) ?_
  refine gw_geti (k := 6) (ref := R_Trains) C hW o_t0 (by decide) rfl gi_Trains rfl (by decide) rfl rfl gk_133 gd_Trains_stepWheels_1 ?_
  refine lv_iconst (v := 1) hx hb gd_Trains_stepWheels_4 (by decide) ?_
  refine lv_isub hx hb gd_Trains_stepWheels_5 ?_
  refine lv_topi (fun a15 e16 => ?_)
  have h := gf_nm_ok e16 h
  refine lv_istore_n (lv' := [(1, .int a15), (0, .ref (hs t0))]) hx hb gd_Trains_stepWheels_6 rfl hl (by decide) rfl (fun ls hl => ?_)
  exact gx_Trains_stepWheels_L7 F C hr hk  F u t0 a15 _ _ _ o_t0 hW (lv_sub hl [1, 0] rfl) h

set_option maxRecDepth 20000 in
theorem gc_Trains_stepWheels (l : Launch) {D : va_G} {cA : Nat → ClassId} {hs : Nat → Nat} {z : gw_Sh} (F : Nat) {u : gw_St} {r0 : gw_St} {t0 : Nat} (o_t0 : gw_ok z t0 1) (h : gf_Trains_stepWheels F z u t0 = some r0) (sz : Nat) : gw_Mv l gy_Trains_stepWheels gb_Trains_stepWheels 2 none gr_Trains_stepWheels [.ref (hs t0)] D cA hs z u sz r0 := by
  refine gw_enter (by decide) (Nat.le_of_ble_eq_true rfl) ?_
  intro p e s m below meth c ls hsz C hW hr hk _ hl
  subst hsz
  exact gx_Trains_stepWheels_b0 F C hr hk u t0 o_t0 hW (lv_sub hl [0] rfl) h
-- GearDesk$Trains.listChoices()V
theorem gk_146 : Cond.fieldLink R_Trains 12 R_Trains "choices" "[J" ∈ gt_T := gt_m1 (List.mem_of_getElem? (i := 46) rfl) rfl
theorem gk_147 : Cond.methodLink R_Trains 104 gy_Trains_stepWheels ∈ gt_T := gt_m3 (List.mem_of_getElem? (i := 33) rfl) rfl
theorem gk_148 : Cond.instanceMethod gy_Trains_stepWheels ∈ gt_T := gt_m3 (List.mem_of_getElem? (i := 35) rfl) rfl
theorem gk_149 : Cond.selects R_Trains gy_Trains_stepWheels gy_Trains_stepWheels ∈ gt_T := gt_p1 (List.mem_of_getElem? (i := 4) rfl) rfl
theorem gk_150 : Cond.methodLink R_Trains 98 gy_Arrays_fill1 ∈ gt_T := gt_m3 (List.mem_of_getElem? (i := 32) rfl) rfl
theorem gk_151 : Cond.static gy_Arrays_fill1 ∈ gt_T := gt_m2 (List.mem_of_getElem? (i := 93) rfl) rfl
def gy_Trains_listChoices : MethodName := ⟨R_Trains, "listChoices", "()V"⟩
abbrev gb_Trains_listChoices : ByteArray := prog_7_method_10_code
theorem gk_152 : Cond.code gy_Trains_listChoices gb_Trains_listChoices 7 none ∈ gt_T := gt_m3 (List.mem_of_getElem? (i := 31) rfl) rfl
def gr_Trains_listChoices : Room := gw_rm 4 131
theorem gm_Trains_listChoices : gw_Mth gy_Trains_listChoices gb_Trains_listChoices 7 none 0 := ⟨gk_152, gk_131, ⟨by decide +kernel, by decide +kernel⟩, by decide +kernel⟩
theorem gd_Trains_listChoices_0 : decode gb_Trains_listChoices 0 = .ok (.aload_n 0, 1) := by decide +kernel
theorem gd_Trains_listChoices_1 : decode gb_Trains_listChoices 1 = .ok (.getfield 23, 3) := by decide +kernel
theorem gd_Trains_listChoices_4 : decode gb_Trains_listChoices 4 = .ok (.aload_n 0, 1) := by decide +kernel
theorem gd_Trains_listChoices_5 : decode gb_Trains_listChoices 5 = .ok (.getfield 37, 3) := by decide +kernel
theorem gd_Trains_listChoices_8 : decode gb_Trains_listChoices 8 = .ok (.invokestatic 98, 3) := by decide +kernel
theorem gd_Trains_listChoices_11 : decode gb_Trains_listChoices 11 = .ok (.iconst 0, 1) := by decide +kernel
theorem gd_Trains_listChoices_12 : decode gb_Trains_listChoices 12 = .ok (.istore_n 1, 1) := by decide +kernel
theorem gd_Trains_listChoices_13 : decode gb_Trains_listChoices 13 = .ok (.iload_n 1, 1) := by decide +kernel
theorem gd_Trains_listChoices_14 : decode gb_Trains_listChoices 14 = .ok (.aload_n 0, 1) := by decide +kernel
theorem gd_Trains_listChoices_15 : decode gb_Trains_listChoices 15 = .ok (.getfield 43, 3) := by decide +kernel
theorem gd_Trains_listChoices_18 : decode gb_Trains_listChoices 18 = .ok (.if_icmp .ge 76, 3) := by decide +kernel
theorem gd_Trains_listChoices_21 : decode gb_Trains_listChoices 21 = .ok (.lconst 1, 1) := by decide +kernel
theorem gd_Trains_listChoices_22 : decode gb_Trains_listChoices 22 = .ok (.lstore_n 2, 1) := by decide +kernel
theorem gd_Trains_listChoices_23 : decode gb_Trains_listChoices 23 = .ok (.lconst 0, 1) := by decide +kernel
theorem gd_Trains_listChoices_24 : decode gb_Trains_listChoices 24 = .ok (.lstore 4, 2) := by decide +kernel
theorem gd_Trains_listChoices_26 : decode gb_Trains_listChoices 26 = .ok (.iconst 0, 1) := by decide +kernel
theorem gd_Trains_listChoices_27 : decode gb_Trains_listChoices 27 = .ok (.istore 6, 2) := by decide +kernel
theorem gd_Trains_listChoices_29 : decode gb_Trains_listChoices 29 = .ok (.iload 6, 2) := by decide +kernel
theorem gd_Trains_listChoices_31 : decode gb_Trains_listChoices 31 = .ok (.aload_n 0, 1) := by decide +kernel
theorem gd_Trains_listChoices_32 : decode gb_Trains_listChoices 32 = .ok (.getfield 33, 3) := by decide +kernel
theorem gd_Trains_listChoices_35 : decode gb_Trains_listChoices 35 = .ok (.if_icmp .ge 36, 3) := by decide +kernel
theorem gd_Trains_listChoices_38 : decode gb_Trains_listChoices 38 = .ok (.lload_n 2, 1) := by decide +kernel
theorem gd_Trains_listChoices_39 : decode gb_Trains_listChoices 39 = .ok (.aload_n 0, 1) := by decide +kernel
theorem gd_Trains_listChoices_40 : decode gb_Trains_listChoices 40 = .ok (.getfield 23, 3) := by decide +kernel
theorem gd_Trains_listChoices_43 : decode gb_Trains_listChoices 43 = .ok (.iload 6, 2) := by decide +kernel
theorem gd_Trains_listChoices_45 : decode gb_Trains_listChoices 45 = .ok (.iaload, 1) := by decide +kernel
theorem gd_Trains_listChoices_46 : decode gb_Trains_listChoices 46 = .ok (.i2l, 1) := by decide +kernel
theorem gd_Trains_listChoices_47 : decode gb_Trains_listChoices 47 = .ok (.lmul, 1) := by decide +kernel
theorem gd_Trains_listChoices_48 : decode gb_Trains_listChoices 48 = .ok (.lstore_n 2, 1) := by decide +kernel
theorem gd_Trains_listChoices_49 : decode gb_Trains_listChoices 49 = .ok (.lload 4, 2) := by decide +kernel
theorem gd_Trains_listChoices_51 : decode gb_Trains_listChoices 51 = .ok (.bipush 7, 2) := by decide +kernel
theorem gd_Trains_listChoices_53 : decode gb_Trains_listChoices 53 = .ok (.lshl, 1) := by decide +kernel
theorem gd_Trains_listChoices_54 : decode gb_Trains_listChoices 54 = .ok (.aload_n 0, 1) := by decide +kernel
theorem gd_Trains_listChoices_55 : decode gb_Trains_listChoices 55 = .ok (.getfield 23, 3) := by decide +kernel
theorem gd_Trains_listChoices_58 : decode gb_Trains_listChoices 58 = .ok (.iload 6, 2) := by decide +kernel
theorem gd_Trains_listChoices_60 : decode gb_Trains_listChoices 60 = .ok (.iaload, 1) := by decide +kernel
theorem gd_Trains_listChoices_61 : decode gb_Trains_listChoices 61 = .ok (.i2l, 1) := by decide +kernel
theorem gd_Trains_listChoices_62 : decode gb_Trains_listChoices 62 = .ok (.lor, 1) := by decide +kernel
theorem gd_Trains_listChoices_63 : decode gb_Trains_listChoices 63 = .ok (.lstore 4, 2) := by decide +kernel
theorem gd_Trains_listChoices_65 : decode gb_Trains_listChoices 65 = .ok (.iinc 6 1, 3) := by decide +kernel
theorem gd_Trains_listChoices_68 : decode gb_Trains_listChoices 68 = .ok (.goto (-39), 3) := by decide +kernel
theorem gd_Trains_listChoices_71 : decode gb_Trains_listChoices 71 = .ok (.aload_n 0, 1) := by decide +kernel
theorem gd_Trains_listChoices_72 : decode gb_Trains_listChoices 72 = .ok (.getfield 12, 3) := by decide +kernel
theorem gd_Trains_listChoices_75 : decode gb_Trains_listChoices 75 = .ok (.iload_n 1, 1) := by decide +kernel
theorem gd_Trains_listChoices_76 : decode gb_Trains_listChoices 76 = .ok (.lload_n 2, 1) := by decide +kernel
theorem gd_Trains_listChoices_77 : decode gb_Trains_listChoices 77 = .ok (.bipush 28, 2) := by decide +kernel
theorem gd_Trains_listChoices_79 : decode gb_Trains_listChoices 79 = .ok (.lshl, 1) := by decide +kernel
theorem gd_Trains_listChoices_80 : decode gb_Trains_listChoices 80 = .ok (.lload 4, 2) := by decide +kernel
theorem gd_Trains_listChoices_82 : decode gb_Trains_listChoices 82 = .ok (.lor, 1) := by decide +kernel
theorem gd_Trains_listChoices_83 : decode gb_Trains_listChoices 83 = .ok (.lastore, 1) := by decide +kernel
theorem gd_Trains_listChoices_84 : decode gb_Trains_listChoices 84 = .ok (.aload_n 0, 1) := by decide +kernel
theorem gd_Trains_listChoices_85 : decode gb_Trains_listChoices 85 = .ok (.invokevirtual 104, 3) := by decide +kernel
theorem gd_Trains_listChoices_88 : decode gb_Trains_listChoices 88 = .ok (.iinc 1 1, 3) := by decide +kernel
theorem gd_Trains_listChoices_91 : decode gb_Trains_listChoices 91 = .ok (.goto (-78), 3) := by decide +kernel
theorem gd_Trains_listChoices_94 : decode gb_Trains_listChoices 94 = .ok (.return_, 1) := by decide +kernel
def gf_Trains_listChoices_S29 (F : Nat) (z : gw_Sh) (rc_13 : gw_St → Nat → Int32 → Option gw_St) (rc_29 : gw_St → Nat → Int32 → Int64 → Int64 → Int32 → Option gw_St) (u : gw_St) (t0 : Nat) (x1 : Int32) (y2 : Int64) (y4 : Int64) (x6 : Int32) : Option gw_St :=
  if (u.1 t0 6) ≤ x6 then (gf_nn (u.2.2 t0 0) fun q2 => if (x1 < 0 ∨ z.2.2 q2 ≤ (x1).toNatClampNeg) then none else gf_nm (gw_wl u q2 (x1).toNatClampNeg ((y2 <<< (((28 : Int32)).toInt64 &&& 63)) ||| y4)) fun u5 => (gf_Trains_stepWheels F z u5 t0).bind fun u7 => gf_nm (x1 + 1) fun a9 => rc_13 u7 t0 a9) else (gf_nn (u.2.2 t0 3) fun q11 => if (x6 < 0 ∨ z.2.2 q11 ≤ (x6).toNatClampNeg) then none else gf_nm (y2 * (((u.1 q11 (x6).toNatClampNeg)).toInt64)) fun a14 => gf_nn (u.2.2 t0 3) fun q16 => if (x6 < 0 ∨ z.2.2 q16 ≤ (x6).toNatClampNeg) then none else gf_nm ((y4 <<< (((7 : Int32)).toInt64 &&& 63)) ||| (((u.1 q16 (x6).toNatClampNeg)).toInt64)) fun a19 => gf_nm (x6 + 1) fun a21 => rc_29 u t0 x1 a14 a19 a21)
def gf_Trains_listChoices_L29 (F : Nat) (z : gw_Sh) (rc_13 : gw_St → Nat → Int32 → Option gw_St) : Nat → gw_St → Nat → Int32 → Int64 → Int64 → Int32 → Option gw_St
  | 0 => fun _ _ _ _ _ _ => none
  | n + 1 => fun u t0 x1 y2 y4 x6 => gf_Trains_listChoices_S29 F z rc_13 (gf_Trains_listChoices_L29 F z rc_13 n) u t0 x1 y2 y4 x6
def gf_Trains_listChoices_S13 (F : Nat) (z : gw_Sh)  (rc_13 : gw_St → Nat → Int32 → Option gw_St) (u : gw_St) (t0 : Nat) (x1 : Int32) : Option gw_St :=
  if (u.1 t0 9) ≤ x1 then (some u) else (gf_Trains_listChoices_L29 F z rc_13 F u t0 x1 1 0 0)
def gf_Trains_listChoices_L13 (F : Nat) (z : gw_Sh)  : Nat → gw_St → Nat → Int32 → Option gw_St
  | 0 => fun _ _ _ => none
  | n + 1 => fun u t0 x1 => gf_Trains_listChoices_S13 F z  (gf_Trains_listChoices_L13 F z  n) u t0 x1
def gf_Trains_listChoices_b0 (F : Nat) (z : gw_Sh)  (u : gw_St) (t0 : Nat) : Option gw_St :=
  gf_nn (u.2.2 t0 3) fun q24 => (gf_Arrays_fill1 F z u q24 (u.1 t0 7)).bind fun u26 => gf_Trains_listChoices_L13 F z  F u26 t0 0
def gf_Trains_listChoices (F : Nat) (z : gw_Sh) (u : gw_St) (t0 : Nat) : Option gw_St := gf_Trains_listChoices_b0 F z  u t0
set_option maxHeartbeats 4000000 in
set_option maxRecDepth 20000 in
theorem gx_Trains_listChoices_S29 {p : Program} {l : Launch} {e : Env} {s : State} {m : MethodId} {args : Array Value} {below : List Frame} {meth : Method} {c : Code} {D : va_G} {cA : Nat → ClassId} {hs : Nat → Nat} {z : gw_Sh} (F : Nat) {r0 : gw_St} (C : gw_Cx p s m args c gb_Trains_listChoices 7 R_Trains D cA) (hr : meth.sig.returnType = none) (hk : meth.locks = false) {rc_13 : gw_St → Nat → Int32 → Option gw_St} (k_13 : ∀ (u : gw_St) (t0 : Nat) (x1 : Int32) (H : Heap) (locs : List Loc) (ls : Array Slot), gw_ok z t0 1 → gw_Wx D cA hs z s u H locs → lv_has ls 7 [(0, .ref (hs t0)), (1, .int x1)] → rc_13 u t0 x1 = some r0 → gw_Gv p l e gr_Trains_listChoices s m args below meth c D cA hs z r0 H locs ls 13 []) {rc_29 : gw_St → Nat → Int32 → Int64 → Int64 → Int32 → Option gw_St} (k_29 : ∀ (u : gw_St) (t0 : Nat) (x1 : Int32) (y2 : Int64) (y4 : Int64) (x6 : Int32) (H : Heap) (locs : List Loc) (ls : Array Slot), gw_ok z t0 1 → gw_Wx D cA hs z s u H locs → lv_has ls 7 [(0, .ref (hs t0)), (1, .int x1), (2, .long y2), (4, .long y4), (6, .int x6)] → rc_29 u t0 x1 y2 y4 x6 = some r0 → gw_Gv p l e gr_Trains_listChoices s m args below meth c D cA hs z r0 H locs ls 29 []) (u : gw_St) (t0 : Nat) (x1 : Int32) (y2 : Int64) (y4 : Int64) (x6 : Int32) (o_t0 : gw_ok z t0 1) {H : Heap} {locs : List Loc} {ls : Array Slot} (hW : gw_Wx D cA hs z s u H locs) (hl : lv_has ls 7 [(0, .ref (hs t0)), (1, .int x1), (2, .long y2), (4, .long y4), (6, .int x6)]) (h : gf_Trains_listChoices_S29 F z rc_13 rc_29 u t0 x1 y2 y4 x6 = some r0) : gw_Gv p l e gr_Trains_listChoices s m args below meth c D cA hs z r0 H locs ls 29 [] := by
  obtain ⟨hx, hb, hml, hown, hts, hK⟩ := id C
  unfold gf_Trains_listChoices_S29 at h
  refine lv_iload hx hb gd_Trains_listChoices_29 (lv_at hl 4 rfl) ?_
  refine lv_aload_n hx hb gd_Trains_listChoices_31 rfl (lv_at hl 0 rfl) ?_
  refine gw_geti (k := 6) (ref := R_Trains) C hW o_t0 (by decide) rfl gi_Trains rfl (by decide) rfl rfl gk_133 gd_Trains_listChoices_32 ?_
  refine lv_icmp_ge (tgt := 71) hx hb gd_Trains_listChoices_35 (by decide) (fun c1 => ?_) (fun c1 => ?_)
  · have h := gf_t c1 h
    refine lv_aload_n hx hb gd_Trains_listChoices_71 rfl (lv_at hl 0 rfl) ?_
    obtain ⟨q2, e3, h⟩ := gf_nn_ok h
    refine gw_getr (k := 0) (ty := 11) (ref := R_Trains) C hW o_t0 (by decide) rfl gi_Trains rfl (by decide) rfl rfl gk_146 gd_Trains_listChoices_72 e3 ?_
    have o_q2 := hW.ref (d := 11) o_t0 e3 rfl
    refine lv_iload_n hx hb gd_Trains_listChoices_75 rfl (lv_at hl 1 rfl) ?_
    refine lv_lload_n hx hb gd_Trains_listChoices_76 rfl (lv_at hl 2 rfl) ?_
    refine lv_bipush (v := 28) hx hb gd_Trains_listChoices_77 (by decide) ?_
    refine lv_lshl hx hb gd_Trains_listChoices_79 rfl ?_
    refine lv_lload hx hb gd_Trains_listChoices_80 (lv_at hl 3 rfl) ?_
    refine lv_lor hx hb gd_Trains_listChoices_82 ?_
    obtain ⟨g4, h⟩ := gf_if_ok h
    refine gw_last C hW o_q2 g4 gd_Trains_listChoices_83 (fun u5 H locs e6 hW => ?_)
    have h := gf_nm_ok e6 h
    refine lv_aload_n hx hb gd_Trains_listChoices_84 rfl (lv_at hl 0 rfl) ?_
    obtain ⟨u7, d8, h⟩ := gf_bd_ok h
    refine gw_callVv (K := R_Trains) (As := []) (rest := []) C hW (fun _ h => Or.inr h) hl.1 gm_Trains_stepWheels (gc_Trains_stepWheels l F o_t0 d8 _) gk_147 gk_148 gk_149 o_t0 (by decide) rfl rfl rfl ⟨Nat.le_of_ble_eq_true rfl, Nat.le_of_ble_eq_true rfl⟩ ⟨Nat.zero_le _, Nat.zero_le _⟩ rfl rfl (Nat.le_of_ble_eq_true rfl) gd_Trains_listChoices_85 (fun H locs hW => ?_)
    obtain ⟨a9, e10⟩ : ∃ y : Int32, y = x1 + 1 := ⟨_, rfl⟩
    have h := gf_nm_ok e10 h
    refine lv_iinc (v := a9) (lv' := [(1, .int a9), (0, .ref (hs t0)), (2, .long y2), (4, .long y4), (6, .int x6)]) hx hb gd_Trains_listChoices_88 hl (k := 1) rfl (by rw [e10]; rfl) (by decide) rfl (fun ls hl => ?_)
    refine lv_goto (tgt := 13) hx hb gd_Trains_listChoices_91 (by decide) ?_
    exact k_13 u7 t0 a9 _ _ _ o_t0 hW (lv_sub hl [1, 0] rfl) h
  · have h := gf_f c1 h
    refine lv_lload_n hx hb gd_Trains_listChoices_38 rfl (lv_at hl 2 rfl) ?_
    refine lv_aload_n hx hb gd_Trains_listChoices_39 rfl (lv_at hl 0 rfl) ?_
    obtain ⟨q11, e12, h⟩ := gf_nn_ok h
    refine gw_getr (k := 3) (ty := 10) (ref := R_Trains) C hW o_t0 (by decide) rfl gi_Trains rfl (by decide) rfl rfl gk_143 gd_Trains_listChoices_40 e12 ?_
    have o_q11 := hW.ref (d := 10) o_t0 e12 rfl
    refine lv_iload hx hb gd_Trains_listChoices_43 (lv_at hl 4 rfl) ?_
    obtain ⟨g13, h⟩ := gf_if_ok h
    refine gw_iald C hW o_q11 g13 gd_Trains_listChoices_45 ?_
    refine lv_i2l hx hb gd_Trains_listChoices_46 rfl ?_
    refine lv_lmul hx hb gd_Trains_listChoices_47 ?_
    refine lv_topl (fun a14 e15 => ?_)
    have h := gf_nm_ok e15 h
    refine lv_lstore_n (lv' := [(2, .long a14), (0, .ref (hs t0)), (1, .int x1), (4, .long y4), (6, .int x6)]) hx hb gd_Trains_listChoices_48 rfl hl (by decide) rfl (fun ls hl => ?_)
    refine lv_lload hx hb gd_Trains_listChoices_49 (lv_at hl 3 rfl) ?_
    refine lv_bipush (v := 7) hx hb gd_Trains_listChoices_51 (by decide) ?_
    refine lv_lshl hx hb gd_Trains_listChoices_53 rfl ?_
    refine lv_aload_n hx hb gd_Trains_listChoices_54 rfl (lv_at hl 1 rfl) ?_
    obtain ⟨q16, e17, h⟩ := gf_nn_ok h
    refine gw_getr (k := 3) (ty := 10) (ref := R_Trains) C hW o_t0 (by decide) rfl gi_Trains rfl (by decide) rfl rfl gk_143 gd_Trains_listChoices_55 e17 ?_
    have o_q16 := hW.ref (d := 10) o_t0 e17 rfl
    refine lv_iload hx hb gd_Trains_listChoices_58 (lv_at hl 4 rfl) ?_
    obtain ⟨g18, h⟩ := gf_if_ok h
    refine gw_iald C hW o_q16 g18 gd_Trains_listChoices_60 ?_
    refine lv_i2l hx hb gd_Trains_listChoices_61 rfl ?_
    refine lv_lor hx hb gd_Trains_listChoices_62 ?_
    refine lv_topl (fun a19 e20 => ?_)
    have h := gf_nm_ok e20 h
    refine lv_lstore (lv' := [(4, .long a19), (2, .long a14), (0, .ref (hs t0)), (1, .int x1), (6, .int x6)]) hx hb gd_Trains_listChoices_63 hl (by decide) rfl (fun ls hl => ?_)
    obtain ⟨a21, e22⟩ : ∃ y : Int32, y = x6 + 1 := ⟨_, rfl⟩
    have h := gf_nm_ok e22 h
    refine lv_iinc (v := a21) (lv' := [(6, .int a21), (4, .long a19), (2, .long a14), (0, .ref (hs t0)), (1, .int x1)]) hx hb gd_Trains_listChoices_65 hl (k := 4) rfl (by rw [e22]; rfl) (by decide) rfl (fun ls hl => ?_)
    refine lv_goto (tgt := 29) hx hb gd_Trains_listChoices_68 (by decide) ?_
    exact k_29 u t0 x1 a14 a19 a21 _ _ _ o_t0 hW (lv_sub hl [3, 4, 2, 1, 0] rfl) h
set_option maxHeartbeats 4000000 in
set_option maxRecDepth 20000 in
theorem gx_Trains_listChoices_L29 {p : Program} {l : Launch} {e : Env} {s : State} {m : MethodId} {args : Array Value} {below : List Frame} {meth : Method} {c : Code} {D : va_G} {cA : Nat → ClassId} {hs : Nat → Nat} {z : gw_Sh} (F : Nat) {r0 : gw_St} (C : gw_Cx p s m args c gb_Trains_listChoices 7 R_Trains D cA) (hr : meth.sig.returnType = none) (hk : meth.locks = false) {rc_13 : gw_St → Nat → Int32 → Option gw_St} (k_13 : ∀ (u : gw_St) (t0 : Nat) (x1 : Int32) (H : Heap) (locs : List Loc) (ls : Array Slot), gw_ok z t0 1 → gw_Wx D cA hs z s u H locs → lv_has ls 7 [(0, .ref (hs t0)), (1, .int x1)] → rc_13 u t0 x1 = some r0 → gw_Gv p l e gr_Trains_listChoices s m args below meth c D cA hs z r0 H locs ls 13 []) : ∀ (n : Nat), ∀ (u : gw_St) (t0 : Nat) (x1 : Int32) (y2 : Int64) (y4 : Int64) (x6 : Int32) (H : Heap) (locs : List Loc) (ls : Array Slot), gw_ok z t0 1 → gw_Wx D cA hs z s u H locs → lv_has ls 7 [(0, .ref (hs t0)), (1, .int x1), (2, .long y2), (4, .long y4), (6, .int x6)] → gf_Trains_listChoices_L29 F z rc_13 n u t0 x1 y2 y4 x6 = some r0 → gw_Gv p l e gr_Trains_listChoices s m args below meth c D cA hs z r0 H locs ls 29 [] := by
  intro n
  induction n with
  | zero =>
    intro u t0 x1 y2 y4 x6 H locs ls o_t0 hW hl h
    cases h
  | succ n ih =>
    intro u t0 x1 y2 y4 x6 H locs ls o_t0 hW hl h
    exact gx_Trains_listChoices_S29 F C hr hk k_13 ih u t0 x1 y2 y4 x6 o_t0 hW hl h

set_option maxHeartbeats 4000000 in
set_option maxRecDepth 20000 in
theorem gx_Trains_listChoices_S13 {p : Program} {l : Launch} {e : Env} {s : State} {m : MethodId} {args : Array Value} {below : List Frame} {meth : Method} {c : Code} {D : va_G} {cA : Nat → ClassId} {hs : Nat → Nat} {z : gw_Sh} (F : Nat) {r0 : gw_St} (C : gw_Cx p s m args c gb_Trains_listChoices 7 R_Trains D cA) (hr : meth.sig.returnType = none) (hk : meth.locks = false) {rc_13 : gw_St → Nat → Int32 → Option gw_St} (k_13 : ∀ (u : gw_St) (t0 : Nat) (x1 : Int32) (H : Heap) (locs : List Loc) (ls : Array Slot), gw_ok z t0 1 → gw_Wx D cA hs z s u H locs → lv_has ls 7 [(0, .ref (hs t0)), (1, .int x1)] → rc_13 u t0 x1 = some r0 → gw_Gv p l e gr_Trains_listChoices s m args below meth c D cA hs z r0 H locs ls 13 []) (u : gw_St) (t0 : Nat) (x1 : Int32) (o_t0 : gw_ok z t0 1) {H : Heap} {locs : List Loc} {ls : Array Slot} (hW : gw_Wx D cA hs z s u H locs) (hl : lv_has ls 7 [(0, .ref (hs t0)), (1, .int x1)]) (h : gf_Trains_listChoices_S13 F z  rc_13 u t0 x1 = some r0) : gw_Gv p l e gr_Trains_listChoices s m args below meth c D cA hs z r0 H locs ls 13 [] := by
  obtain ⟨hx, hb, hml, hown, hts, hK⟩ := id C
  unfold gf_Trains_listChoices_S13 at h
  refine lv_iload_n hx hb gd_Trains_listChoices_13 rfl (lv_at hl 1 rfl) ?_
  refine lv_aload_n hx hb gd_Trains_listChoices_14 rfl (lv_at hl 0 rfl) ?_
  refine gw_geti (k := 9) (ref := R_Trains) C hW o_t0 (by decide) rfl gi_Trains rfl (by decide) rfl rfl gk_135 gd_Trains_listChoices_15 ?_
  refine lv_icmp_ge (tgt := 94) hx hb gd_Trains_listChoices_18 (by decide) (fun c23 => ?_) (fun c23 => ?_)
  · have h := gf_t c23 h
    obtain rfl := Option.some.inj h
    exact gw_vret C hW hr hk gd_Trains_listChoices_94
  · have h := gf_f c23 h
    refine lv_lconst (v := 1) hx hb gd_Trains_listChoices_21 (by decide) ?_
    refine lv_lstore_n (lv' := [(2, .long 1), (0, .ref (hs t0)), (1, .int x1)]) hx hb gd_Trains_listChoices_22 rfl hl (by decide) rfl (fun ls hl => ?_)
    refine lv_lconst (v := 0) hx hb gd_Trains_listChoices_23 (by decide) ?_
    refine lv_lstore (lv' := [(4, .long 0), (2, .long 1), (0, .ref (hs t0)), (1, .int x1)]) hx hb gd_Trains_listChoices_24 hl (by decide) rfl (fun ls hl => ?_)
    refine lv_iconst (v := 0) hx hb gd_Trains_listChoices_26 (by decide) ?_
    refine lv_istore (lv' := [(6, .int 0), (4, .long 0), (2, .long 1), (0, .ref (hs t0)), (1, .int x1)]) hx hb gd_Trains_listChoices_27 hl (by decide) rfl (fun ls hl => ?_)
    exact gx_Trains_listChoices_L29 F C hr hk k_13 F u t0 x1 1 0 0 _ _ _ o_t0 hW (lv_sub hl [3, 4, 2, 1, 0] rfl) h
set_option maxHeartbeats 4000000 in
set_option maxRecDepth 20000 in
theorem gx_Trains_listChoices_L13 {p : Program} {l : Launch} {e : Env} {s : State} {m : MethodId} {args : Array Value} {below : List Frame} {meth : Method} {c : Code} {D : va_G} {cA : Nat → ClassId} {hs : Nat → Nat} {z : gw_Sh} (F : Nat) {r0 : gw_St} (C : gw_Cx p s m args c gb_Trains_listChoices 7 R_Trains D cA) (hr : meth.sig.returnType = none) (hk : meth.locks = false) : ∀ (n : Nat), ∀ (u : gw_St) (t0 : Nat) (x1 : Int32) (H : Heap) (locs : List Loc) (ls : Array Slot), gw_ok z t0 1 → gw_Wx D cA hs z s u H locs → lv_has ls 7 [(0, .ref (hs t0)), (1, .int x1)] → gf_Trains_listChoices_L13 F z  n u t0 x1 = some r0 → gw_Gv p l e gr_Trains_listChoices s m args below meth c D cA hs z r0 H locs ls 13 [] := by
  intro n
  induction n with
  | zero =>
    intro u t0 x1 H locs ls o_t0 hW hl h
    cases h
  | succ n ih =>
    intro u t0 x1 H locs ls o_t0 hW hl h
    exact gx_Trains_listChoices_S13 F C hr hk  ih u t0 x1 o_t0 hW hl h

set_option maxHeartbeats 4000000 in
set_option maxRecDepth 20000 in
theorem gx_Trains_listChoices_b0 {p : Program} {l : Launch} {e : Env} {s : State} {m : MethodId} {args : Array Value} {below : List Frame} {meth : Method} {c : Code} {D : va_G} {cA : Nat → ClassId} {hs : Nat → Nat} {z : gw_Sh} (F : Nat) {r0 : gw_St} (C : gw_Cx p s m args c gb_Trains_listChoices 7 R_Trains D cA) (hr : meth.sig.returnType = none) (hk : meth.locks = false) (u : gw_St) (t0 : Nat) (o_t0 : gw_ok z t0 1) {H : Heap} {locs : List Loc} {ls : Array Slot} (hW : gw_Wx D cA hs z s u H locs) (hl : lv_has ls 7 [(0, .ref (hs t0))]) (h : gf_Trains_listChoices_b0 F z   u t0 = some r0) : gw_Gv p l e gr_Trains_listChoices s m args below meth c D cA hs z r0 H locs ls 0 [] := by
  obtain ⟨hx, hb, hml, hown, hts, hK⟩ := id C
  unfold gf_Trains_listChoices_b0 at h
  refine lv_aload_n hx hb gd_Trains_listChoices_0 rfl (lv_at hl 0 rfl) ?_
  obtain ⟨q24, e25, h⟩ := gf_nn_ok h
  refine gw_getr (k := 3) (ty := 10) (ref := R_Trains) C hW o_t0 (by decide) rfl gi_Trains rfl (by decide) rfl rfl gk_143 gd_Trains_listChoices_1 e25 ?_
  have o_q24 := hW.ref (d := 10) o_t0 e25 rfl
  refine lv_aload_n hx hb gd_Trains_listChoices_4 rfl (lv_at hl 0 rfl) ?_
  refine gw_geti (k := 7) (ref := R_Trains) C hW o_t0 (by decide) rfl gi_Trains rfl (by decide) rfl rfl gk_137 gd_Trains_listChoices_5 ?_
  obtain ⟨u26, d27, h⟩ := gf_bd_ok h
  refine gw_callSv (As := [.ref (hs q24), .int (u.1 t0 7)]) (rest := []) C hW (fun _ h => Or.inr h) hl.1 gm_Arrays_fill1 (gc_Arrays_fill1 l F o_q24 d27 _) gk_150 gk_151 rfl rfl ⟨Nat.le_of_ble_eq_true rfl, Nat.le_of_ble_eq_true rfl⟩ ⟨Nat.zero_le _, Nat.zero_le _⟩ rfl rfl (Nat.le_of_ble_eq_true rfl) gd_Trains_listChoices_8 (fun H locs hW => ?_)
  refine lv_iconst (v := 0) hx hb gd_Trains_listChoices_11 (by decide) ?_
  refine lv_istore_n (lv' := [(1, .int 0), (0, .ref (hs t0))]) hx hb gd_Trains_listChoices_12 rfl hl (by decide) rfl (fun ls hl => ?_)
  exact gx_Trains_listChoices_L13 F C hr hk  F u26 t0 0 _ _ _ o_t0 hW (lv_sub hl [1, 0] rfl) h

set_option maxRecDepth 20000 in
theorem gc_Trains_listChoices (l : Launch) {D : va_G} {cA : Nat → ClassId} {hs : Nat → Nat} {z : gw_Sh} (F : Nat) {u : gw_St} {r0 : gw_St} {t0 : Nat} (o_t0 : gw_ok z t0 1) (h : gf_Trains_listChoices F z u t0 = some r0) (sz : Nat) : gw_Mv l gy_Trains_listChoices gb_Trains_listChoices 7 none gr_Trains_listChoices [.ref (hs t0)] D cA hs z u sz r0 := by
  refine gw_enter (by decide) (Nat.le_of_ble_eq_true rfl) ?_
  intro p e s m below meth c ls hsz C hW hr hk _ hl
  subst hsz
  exact gx_Trains_listChoices_b0 F C hr hk u t0 o_t0 hW (lv_sub hl [0] rfl) h
-- GearDesk$Trains.product(J)J
def gy_Trains_product : MethodName := ⟨R_Trains, "product", "(J)J"⟩
abbrev gb_Trains_product : ByteArray := prog_7_method_21_code
theorem gk_153 : Cond.code gy_Trains_product gb_Trains_product 2 (some .long) ∈ gt_T := gt_m4 (List.mem_of_getElem? (i := 85) rfl) rfl
def gr_Trains_product : Room := gw_rm 1 64
theorem gm_Trains_product : gw_Mth gy_Trains_product gb_Trains_product 2 (some .long) 1 := ⟨gk_153, gk_131, ⟨by decide +kernel, by decide +kernel⟩, by decide +kernel⟩
theorem gd_Trains_product_0 : decode gb_Trains_product 0 = .ok (.lload_n 0, 1) := by decide +kernel
theorem gd_Trains_product_1 : decode gb_Trains_product 1 = .ok (.bipush 28, 2) := by decide +kernel
theorem gd_Trains_product_3 : decode gb_Trains_product 3 = .ok (.lshr, 1) := by decide +kernel
theorem gd_Trains_product_4 : decode gb_Trains_product 4 = .ok (.lreturn, 1) := by decide +kernel
def gf_Trains_product_b0 (F : Nat) (z : gw_Sh)  (u : gw_St) (y0 : Int64) : Option (Int64 × gw_St) :=
  some ((y0 >>> (((28 : Int32)).toInt64 &&& 63)), u)
def gf_Trains_product (F : Nat) (z : gw_Sh) (u : gw_St) (y0 : Int64) : Option (Int64 × gw_St) := gf_Trains_product_b0 F z  u y0
set_option maxHeartbeats 4000000 in
set_option maxRecDepth 20000 in
theorem gx_Trains_product_b0 {p : Program} {l : Launch} {e : Env} {s : State} {m : MethodId} {args : Array Value} {below : List Frame} {meth : Method} {c : Code} {D : va_G} {cA : Nat → ClassId} {hs : Nat → Nat} {z : gw_Sh} (F : Nat) {r0 : (Int64 × gw_St)} (C : gw_Cx p s m args c gb_Trains_product 2 R_Trains D cA) (hr : meth.sig.returnType = (some .long)) (hk : meth.locks = false) (u : gw_St) (y0 : Int64)  {H : Heap} {locs : List Loc} {ls : Array Slot} (hW : gw_Wx D cA hs z s u H locs) (hl : lv_has ls 2 [(0, .long y0)]) (h : gf_Trains_product_b0 F z   u y0 = some r0) : gw_Gl p l e gr_Trains_product s m args below meth c D cA hs z r0 H locs ls 0 [] := by
  obtain ⟨hx, hb, hml, hown, hts, hK⟩ := id C
  unfold gf_Trains_product_b0 at h
  refine lv_lload_n hx hb gd_Trains_product_0 rfl (lv_at hl 0 rfl) ?_
  refine lv_bipush (v := 28) hx hb gd_Trains_product_1 (by decide) ?_
  refine lv_lshr hx hb gd_Trains_product_3 rfl ?_
  obtain rfl := Option.some.inj h
  exact gw_lret C hW hr hk gd_Trains_product_4

set_option maxRecDepth 20000 in
theorem gc_Trains_product (l : Launch) {D : va_G} {cA : Nat → ClassId} {hs : Nat → Nat} {z : gw_Sh} (F : Nat) {u : gw_St} {r0 : (Int64 × gw_St)} {y0 : Int64}  (h : gf_Trains_product F z u y0 = some r0) (sz : Nat) : gw_Ml l gy_Trains_product gb_Trains_product 2 (some .long) gr_Trains_product [.long y0] D cA hs z u sz r0 := by
  refine gw_enter (by decide) (Nat.le_of_ble_eq_true rfl) ?_
  intro p e s m below meth c ls hsz C hW hr hk _ hl
  subst hsz
  exact gx_Trains_product_b0 F C hr hk u y0  hW (lv_sub hl [0] rfl) h
-- GearDesk$Trains.digit(JI)I
def gy_Trains_digit : MethodName := ⟨R_Trains, "digit", "(JI)I"⟩
abbrev gb_Trains_digit : ByteArray := prog_7_method_22_code
theorem gk_154 : Cond.code gy_Trains_digit gb_Trains_digit 3 (some .int) ∈ gt_T := gt_m4 (List.mem_of_getElem? (i := 92) rfl) rfl
def gr_Trains_digit : Room := gw_rm 1 64
theorem gm_Trains_digit : gw_Mth gy_Trains_digit gb_Trains_digit 3 (some .int) 2 := ⟨gk_154, gk_131, ⟨by decide +kernel, by decide +kernel⟩, by decide +kernel⟩
theorem gd_Trains_digit_0 : decode gb_Trains_digit 0 = .ok (.lload_n 0, 1) := by decide +kernel
theorem gd_Trains_digit_1 : decode gb_Trains_digit 1 = .ok (.iload_n 2, 1) := by decide +kernel
theorem gd_Trains_digit_2 : decode gb_Trains_digit 2 = .ok (.lshr, 1) := by decide +kernel
theorem gd_Trains_digit_3 : decode gb_Trains_digit 3 = .ok (.l2i, 1) := by decide +kernel
theorem gd_Trains_digit_4 : decode gb_Trains_digit 4 = .ok (.sipush 2047, 3) := by decide +kernel
theorem gd_Trains_digit_7 : decode gb_Trains_digit 7 = .ok (.iand, 1) := by decide +kernel
theorem gd_Trains_digit_8 : decode gb_Trains_digit 8 = .ok (.ireturn, 1) := by decide +kernel
def gf_Trains_digit_b0 (F : Nat) (z : gw_Sh)  (u : gw_St) (y0 : Int64) (x2 : Int32) : Option (Int32 × gw_St) :=
  some (((((y0 >>> ((x2).toInt64 &&& 63))).toInt32) &&& (2047 : Int32)), u)
def gf_Trains_digit (F : Nat) (z : gw_Sh) (u : gw_St) (y0 : Int64) (x2 : Int32) : Option (Int32 × gw_St) := gf_Trains_digit_b0 F z  u y0 x2
set_option maxHeartbeats 4000000 in
set_option maxRecDepth 20000 in
theorem gx_Trains_digit_b0 {p : Program} {l : Launch} {e : Env} {s : State} {m : MethodId} {args : Array Value} {below : List Frame} {meth : Method} {c : Code} {D : va_G} {cA : Nat → ClassId} {hs : Nat → Nat} {z : gw_Sh} (F : Nat) {r0 : (Int32 × gw_St)} (C : gw_Cx p s m args c gb_Trains_digit 3 R_Trains D cA) (hr : meth.sig.returnType = (some .int)) (hk : meth.locks = false) (u : gw_St) (y0 : Int64) (x2 : Int32)  {H : Heap} {locs : List Loc} {ls : Array Slot} (hW : gw_Wx D cA hs z s u H locs) (hl : lv_has ls 3 [(0, .long y0), (2, .int x2)]) (h : gf_Trains_digit_b0 F z   u y0 x2 = some r0) : gw_Gi p l e gr_Trains_digit s m args below meth c D cA hs z r0 H locs ls 0 [] := by
  obtain ⟨hx, hb, hml, hown, hts, hK⟩ := id C
  unfold gf_Trains_digit_b0 at h
  refine lv_lload_n hx hb gd_Trains_digit_0 rfl (lv_at hl 0 rfl) ?_
  refine lv_iload_n hx hb gd_Trains_digit_1 rfl (lv_at hl 1 rfl) ?_
  refine lv_lshr hx hb gd_Trains_digit_2 rfl ?_
  refine lv_l2i hx hb gd_Trains_digit_3 rfl ?_
  refine lv_sipush (v := 2047) hx hb gd_Trains_digit_4 (by decide) ?_
  refine lv_iand hx hb gd_Trains_digit_7 ?_
  obtain rfl := Option.some.inj h
  exact gw_iret C hW hr hk gd_Trains_digit_8

set_option maxRecDepth 20000 in
theorem gc_Trains_digit (l : Launch) {D : va_G} {cA : Nat → ClassId} {hs : Nat → Nat} {z : gw_Sh} (F : Nat) {u : gw_St} {r0 : (Int32 × gw_St)} {y0 : Int64} {x2 : Int32}  (h : gf_Trains_digit F z u y0 x2 = some r0) (sz : Nat) : gw_Mi l gy_Trains_digit gb_Trains_digit 3 (some .int) gr_Trains_digit [.long y0, .int x2] D cA hs z u sz r0 := by
  refine gw_enter (by decide) (Nat.le_of_ble_eq_true rfl) ?_
  intro p e s m below meth c ls hsz C hW hr hk _ hl
  subst hsz
  exact gx_Trains_digit_b0 F C hr hk u y0 x2  hW (lv_sub hl [0, 1] rfl) h
-- GearDesk$Trains.sortByDigit(I)V
theorem gk_155 : Cond.fieldLink R_Trains 16 R_Trains "spareChoices" "[J" ∈ gt_T := gt_m1 (List.mem_of_getElem? (i := 47) rfl) rfl
theorem gk_156 : Cond.methodLink R_Trains 114 gy_Trains_digit ∈ gt_T := gt_m4 (List.mem_of_getElem? (i := 90) rfl) rfl
theorem gk_157 : Cond.static gy_Trains_digit ∈ gt_T := gt_m4 (List.mem_of_getElem? (i := 91) rfl) rfl
theorem gk_158 : Cond.fieldLink R_Trains 19 R_Trains "tally" "[I" ∈ gt_T := gt_m1 (List.mem_of_getElem? (i := 48) rfl) rfl
def gy_Trains_sortByDigit : MethodName := ⟨R_Trains, "sortByDigit", "(I)V"⟩
abbrev gb_Trains_sortByDigit : ByteArray := prog_7_method_13_code
theorem gk_159 : Cond.code gy_Trains_sortByDigit gb_Trains_sortByDigit 5 none ∈ gt_T := gt_m4 (List.mem_of_getElem? (i := 89) rfl) rfl
def gr_Trains_sortByDigit : Room := gw_rm 2 87
theorem gm_Trains_sortByDigit : gw_Mth gy_Trains_sortByDigit gb_Trains_sortByDigit 5 none 1 := ⟨gk_159, gk_131, ⟨by decide +kernel, by decide +kernel⟩, by decide +kernel⟩
theorem gd_Trains_sortByDigit_0 : decode gb_Trains_sortByDigit 0 = .ok (.aload_n 0, 1) := by decide +kernel
theorem gd_Trains_sortByDigit_1 : decode gb_Trains_sortByDigit 1 = .ok (.getfield 19, 3) := by decide +kernel
theorem gd_Trains_sortByDigit_4 : decode gb_Trains_sortByDigit 4 = .ok (.iconst 0, 1) := by decide +kernel
theorem gd_Trains_sortByDigit_5 : decode gb_Trains_sortByDigit 5 = .ok (.invokestatic 98, 3) := by decide +kernel
theorem gd_Trains_sortByDigit_8 : decode gb_Trains_sortByDigit 8 = .ok (.iconst 0, 1) := by decide +kernel
theorem gd_Trains_sortByDigit_9 : decode gb_Trains_sortByDigit 9 = .ok (.istore_n 2, 1) := by decide +kernel
theorem gd_Trains_sortByDigit_10 : decode gb_Trains_sortByDigit 10 = .ok (.iload_n 2, 1) := by decide +kernel
theorem gd_Trains_sortByDigit_11 : decode gb_Trains_sortByDigit 11 = .ok (.aload_n 0, 1) := by decide +kernel
theorem gd_Trains_sortByDigit_12 : decode gb_Trains_sortByDigit 12 = .ok (.getfield 43, 3) := by decide +kernel
theorem gd_Trains_sortByDigit_15 : decode gb_Trains_sortByDigit 15 = .ok (.if_icmp .ge 28, 3) := by decide +kernel
theorem gd_Trains_sortByDigit_18 : decode gb_Trains_sortByDigit 18 = .ok (.aload_n 0, 1) := by decide +kernel
theorem gd_Trains_sortByDigit_19 : decode gb_Trains_sortByDigit 19 = .ok (.getfield 19, 3) := by decide +kernel
theorem gd_Trains_sortByDigit_22 : decode gb_Trains_sortByDigit 22 = .ok (.aload_n 0, 1) := by decide +kernel
theorem gd_Trains_sortByDigit_23 : decode gb_Trains_sortByDigit 23 = .ok (.getfield 12, 3) := by decide +kernel
theorem gd_Trains_sortByDigit_26 : decode gb_Trains_sortByDigit 26 = .ok (.iload_n 2, 1) := by decide +kernel
theorem gd_Trains_sortByDigit_27 : decode gb_Trains_sortByDigit 27 = .ok (.laload, 1) := by decide +kernel
theorem gd_Trains_sortByDigit_28 : decode gb_Trains_sortByDigit 28 = .ok (.iload_n 1, 1) := by decide +kernel
theorem gd_Trains_sortByDigit_29 : decode gb_Trains_sortByDigit 29 = .ok (.invokestatic 114, 3) := by decide +kernel
theorem gd_Trains_sortByDigit_32 : decode gb_Trains_sortByDigit 32 = .ok (.dup2, 1) := by decide +kernel
theorem gd_Trains_sortByDigit_33 : decode gb_Trains_sortByDigit 33 = .ok (.iaload, 1) := by decide +kernel
theorem gd_Trains_sortByDigit_34 : decode gb_Trains_sortByDigit 34 = .ok (.iconst 1, 1) := by decide +kernel
theorem gd_Trains_sortByDigit_35 : decode gb_Trains_sortByDigit 35 = .ok (.iadd, 1) := by decide +kernel
theorem gd_Trains_sortByDigit_36 : decode gb_Trains_sortByDigit 36 = .ok (.iastore, 1) := by decide +kernel
theorem gd_Trains_sortByDigit_37 : decode gb_Trains_sortByDigit 37 = .ok (.iinc 2 1, 3) := by decide +kernel
theorem gd_Trains_sortByDigit_40 : decode gb_Trains_sortByDigit 40 = .ok (.goto (-30), 3) := by decide +kernel
theorem gd_Trains_sortByDigit_43 : decode gb_Trains_sortByDigit 43 = .ok (.iconst 0, 1) := by decide +kernel
theorem gd_Trains_sortByDigit_44 : decode gb_Trains_sortByDigit 44 = .ok (.istore_n 2, 1) := by decide +kernel
theorem gd_Trains_sortByDigit_45 : decode gb_Trains_sortByDigit 45 = .ok (.iconst 0, 1) := by decide +kernel
theorem gd_Trains_sortByDigit_46 : decode gb_Trains_sortByDigit 46 = .ok (.istore_n 3, 1) := by decide +kernel
theorem gd_Trains_sortByDigit_47 : decode gb_Trains_sortByDigit 47 = .ok (.iload_n 3, 1) := by decide +kernel
theorem gd_Trains_sortByDigit_48 : decode gb_Trains_sortByDigit 48 = .ok (.aload_n 0, 1) := by decide +kernel
theorem gd_Trains_sortByDigit_49 : decode gb_Trains_sortByDigit 49 = .ok (.getfield 19, 3) := by decide +kernel
theorem gd_Trains_sortByDigit_52 : decode gb_Trains_sortByDigit 52 = .ok (.arraylength, 1) := by decide +kernel
theorem gd_Trains_sortByDigit_53 : decode gb_Trains_sortByDigit 53 = .ok (.if_icmp .ge 29, 3) := by decide +kernel
theorem gd_Trains_sortByDigit_56 : decode gb_Trains_sortByDigit 56 = .ok (.aload_n 0, 1) := by decide +kernel
theorem gd_Trains_sortByDigit_57 : decode gb_Trains_sortByDigit 57 = .ok (.getfield 19, 3) := by decide +kernel
theorem gd_Trains_sortByDigit_60 : decode gb_Trains_sortByDigit 60 = .ok (.iload_n 3, 1) := by decide +kernel
theorem gd_Trains_sortByDigit_61 : decode gb_Trains_sortByDigit 61 = .ok (.iaload, 1) := by decide +kernel
theorem gd_Trains_sortByDigit_62 : decode gb_Trains_sortByDigit 62 = .ok (.istore 4, 2) := by decide +kernel
theorem gd_Trains_sortByDigit_64 : decode gb_Trains_sortByDigit 64 = .ok (.aload_n 0, 1) := by decide +kernel
theorem gd_Trains_sortByDigit_65 : decode gb_Trains_sortByDigit 65 = .ok (.getfield 19, 3) := by decide +kernel
theorem gd_Trains_sortByDigit_68 : decode gb_Trains_sortByDigit 68 = .ok (.iload_n 3, 1) := by decide +kernel
theorem gd_Trains_sortByDigit_69 : decode gb_Trains_sortByDigit 69 = .ok (.iload_n 2, 1) := by decide +kernel
theorem gd_Trains_sortByDigit_70 : decode gb_Trains_sortByDigit 70 = .ok (.iastore, 1) := by decide +kernel
theorem gd_Trains_sortByDigit_71 : decode gb_Trains_sortByDigit 71 = .ok (.iload_n 2, 1) := by decide +kernel
theorem gd_Trains_sortByDigit_72 : decode gb_Trains_sortByDigit 72 = .ok (.iload 4, 2) := by decide +kernel
theorem gd_Trains_sortByDigit_74 : decode gb_Trains_sortByDigit 74 = .ok (.iadd, 1) := by decide +kernel
theorem gd_Trains_sortByDigit_75 : decode gb_Trains_sortByDigit 75 = .ok (.istore_n 2, 1) := by decide +kernel
theorem gd_Trains_sortByDigit_76 : decode gb_Trains_sortByDigit 76 = .ok (.iinc 3 1, 3) := by decide +kernel
theorem gd_Trains_sortByDigit_79 : decode gb_Trains_sortByDigit 79 = .ok (.goto (-32), 3) := by decide +kernel
theorem gd_Trains_sortByDigit_82 : decode gb_Trains_sortByDigit 82 = .ok (.iconst 0, 1) := by decide +kernel
theorem gd_Trains_sortByDigit_83 : decode gb_Trains_sortByDigit 83 = .ok (.istore_n 3, 1) := by decide +kernel
theorem gd_Trains_sortByDigit_84 : decode gb_Trains_sortByDigit 84 = .ok (.iload_n 3, 1) := by decide +kernel
theorem gd_Trains_sortByDigit_85 : decode gb_Trains_sortByDigit 85 = .ok (.aload_n 0, 1) := by decide +kernel
theorem gd_Trains_sortByDigit_86 : decode gb_Trains_sortByDigit 86 = .ok (.getfield 43, 3) := by decide +kernel
theorem gd_Trains_sortByDigit_89 : decode gb_Trains_sortByDigit 89 = .ok (.if_icmp .ge 50, 3) := by decide +kernel
theorem gd_Trains_sortByDigit_92 : decode gb_Trains_sortByDigit 92 = .ok (.aload_n 0, 1) := by decide +kernel
theorem gd_Trains_sortByDigit_93 : decode gb_Trains_sortByDigit 93 = .ok (.getfield 12, 3) := by decide +kernel
theorem gd_Trains_sortByDigit_96 : decode gb_Trains_sortByDigit 96 = .ok (.iload_n 3, 1) := by decide +kernel
theorem gd_Trains_sortByDigit_97 : decode gb_Trains_sortByDigit 97 = .ok (.laload, 1) := by decide +kernel
theorem gd_Trains_sortByDigit_98 : decode gb_Trains_sortByDigit 98 = .ok (.iload_n 1, 1) := by decide +kernel
theorem gd_Trains_sortByDigit_99 : decode gb_Trains_sortByDigit 99 = .ok (.invokestatic 114, 3) := by decide +kernel
theorem gd_Trains_sortByDigit_102 : decode gb_Trains_sortByDigit 102 = .ok (.istore 4, 2) := by decide +kernel
theorem gd_Trains_sortByDigit_104 : decode gb_Trains_sortByDigit 104 = .ok (.aload_n 0, 1) := by decide +kernel
theorem gd_Trains_sortByDigit_105 : decode gb_Trains_sortByDigit 105 = .ok (.getfield 16, 3) := by decide +kernel
theorem gd_Trains_sortByDigit_108 : decode gb_Trains_sortByDigit 108 = .ok (.aload_n 0, 1) := by decide +kernel
theorem gd_Trains_sortByDigit_109 : decode gb_Trains_sortByDigit 109 = .ok (.getfield 19, 3) := by decide +kernel
theorem gd_Trains_sortByDigit_112 : decode gb_Trains_sortByDigit 112 = .ok (.iload 4, 2) := by decide +kernel
theorem gd_Trains_sortByDigit_114 : decode gb_Trains_sortByDigit 114 = .ok (.iaload, 1) := by decide +kernel
theorem gd_Trains_sortByDigit_115 : decode gb_Trains_sortByDigit 115 = .ok (.aload_n 0, 1) := by decide +kernel
theorem gd_Trains_sortByDigit_116 : decode gb_Trains_sortByDigit 116 = .ok (.getfield 12, 3) := by decide +kernel
theorem gd_Trains_sortByDigit_119 : decode gb_Trains_sortByDigit 119 = .ok (.iload_n 3, 1) := by decide +kernel
theorem gd_Trains_sortByDigit_120 : decode gb_Trains_sortByDigit 120 = .ok (.laload, 1) := by decide +kernel
theorem gd_Trains_sortByDigit_121 : decode gb_Trains_sortByDigit 121 = .ok (.lastore, 1) := by decide +kernel
theorem gd_Trains_sortByDigit_122 : decode gb_Trains_sortByDigit 122 = .ok (.aload_n 0, 1) := by decide +kernel
theorem gd_Trains_sortByDigit_123 : decode gb_Trains_sortByDigit 123 = .ok (.getfield 19, 3) := by decide +kernel
theorem gd_Trains_sortByDigit_126 : decode gb_Trains_sortByDigit 126 = .ok (.iload 4, 2) := by decide +kernel
theorem gd_Trains_sortByDigit_128 : decode gb_Trains_sortByDigit 128 = .ok (.dup2, 1) := by decide +kernel
theorem gd_Trains_sortByDigit_129 : decode gb_Trains_sortByDigit 129 = .ok (.iaload, 1) := by decide +kernel
theorem gd_Trains_sortByDigit_130 : decode gb_Trains_sortByDigit 130 = .ok (.iconst 1, 1) := by decide +kernel
theorem gd_Trains_sortByDigit_131 : decode gb_Trains_sortByDigit 131 = .ok (.iadd, 1) := by decide +kernel
theorem gd_Trains_sortByDigit_132 : decode gb_Trains_sortByDigit 132 = .ok (.iastore, 1) := by decide +kernel
theorem gd_Trains_sortByDigit_133 : decode gb_Trains_sortByDigit 133 = .ok (.iinc 3 1, 3) := by decide +kernel
theorem gd_Trains_sortByDigit_136 : decode gb_Trains_sortByDigit 136 = .ok (.goto (-52), 3) := by decide +kernel
theorem gd_Trains_sortByDigit_139 : decode gb_Trains_sortByDigit 139 = .ok (.aload_n 0, 1) := by decide +kernel
theorem gd_Trains_sortByDigit_140 : decode gb_Trains_sortByDigit 140 = .ok (.getfield 16, 3) := by decide +kernel
theorem gd_Trains_sortByDigit_143 : decode gb_Trains_sortByDigit 143 = .ok (.astore_n 3, 1) := by decide +kernel
theorem gd_Trains_sortByDigit_144 : decode gb_Trains_sortByDigit 144 = .ok (.aload_n 0, 1) := by decide +kernel
theorem gd_Trains_sortByDigit_145 : decode gb_Trains_sortByDigit 145 = .ok (.aload_n 0, 1) := by decide +kernel
theorem gd_Trains_sortByDigit_146 : decode gb_Trains_sortByDigit 146 = .ok (.getfield 12, 3) := by decide +kernel
theorem gd_Trains_sortByDigit_149 : decode gb_Trains_sortByDigit 149 = .ok (.putfield 16, 3) := by decide +kernel
theorem gd_Trains_sortByDigit_152 : decode gb_Trains_sortByDigit 152 = .ok (.aload_n 0, 1) := by decide +kernel
theorem gd_Trains_sortByDigit_153 : decode gb_Trains_sortByDigit 153 = .ok (.aload_n 3, 1) := by decide +kernel
theorem gd_Trains_sortByDigit_154 : decode gb_Trains_sortByDigit 154 = .ok (.putfield 12, 3) := by decide +kernel
theorem gd_Trains_sortByDigit_157 : decode gb_Trains_sortByDigit 157 = .ok (.return_, 1) := by decide +kernel
def gf_Trains_sortByDigit_S84 (F : Nat) (z : gw_Sh)  (rc_84 : gw_St → Nat → Int32 → Int32 → Option gw_St) (u : gw_St) (t0 : Nat) (x1 : Int32) (x3 : Int32) : Option gw_St :=
  if (u.1 t0 9) ≤ x3 then (gf_nn (u.2.2 t0 1) fun q2 => gf_nn (u.2.2 t0 0) fun q4 => gf_nm (gw_wr u t0 1 (q4 + 1)) fun u6 => gf_nm (gw_wr u6 t0 0 (q2 + 1)) fun u8 => some u8) else (gf_nn (u.2.2 t0 0) fun q10 => if (x3 < 0 ∨ z.2.2 q10 ≤ (x3).toNatClampNeg) then none else gf_cl (gf_Trains_digit F z u (u.2.1 q10 (x3).toNatClampNeg) x1) fun a15 u13 => gf_nn (u13.2.2 t0 1) fun q16 => gf_nn (u13.2.2 t0 2) fun q18 => if (a15 < 0 ∨ z.2.2 q18 ≤ (a15).toNatClampNeg) then none else gf_nn (u13.2.2 t0 0) fun q21 => if (x3 < 0 ∨ z.2.2 q21 ≤ (x3).toNatClampNeg) then none else if ((u13.1 q18 (a15).toNatClampNeg) < 0 ∨ z.2.2 q16 ≤ ((u13.1 q18 (a15).toNatClampNeg)).toNatClampNeg) then none else gf_nm (gw_wl u13 q16 ((u13.1 q18 (a15).toNatClampNeg)).toNatClampNeg (u13.2.1 q21 (x3).toNatClampNeg)) fun u25 => gf_nn (u25.2.2 t0 2) fun q27 => if (a15 < 0 ∨ z.2.2 q27 ≤ (a15).toNatClampNeg) then none else if (a15 < 0 ∨ z.2.2 q27 ≤ (a15).toNatClampNeg) then none else gf_nm (gw_wi u25 q27 (a15).toNatClampNeg ((u25.1 q27 (a15).toNatClampNeg) + (1 : Int32))) fun u31 => gf_nm (x3 + 1) fun a33 => rc_84 u31 t0 x1 a33)
def gf_Trains_sortByDigit_L84 (F : Nat) (z : gw_Sh)  : Nat → gw_St → Nat → Int32 → Int32 → Option gw_St
  | 0 => fun _ _ _ _ => none
  | n + 1 => fun u t0 x1 x3 => gf_Trains_sortByDigit_S84 F z  (gf_Trains_sortByDigit_L84 F z  n) u t0 x1 x3
def gf_Trains_sortByDigit_S47 (F : Nat) (z : gw_Sh)  (rc_47 : gw_St → Nat → Int32 → Int32 → Int32 → Option gw_St) (u : gw_St) (t0 : Nat) (x1 : Int32) (x2 : Int32) (x3 : Int32) : Option gw_St :=
  gf_nn (u.2.2 t0 2) fun q35 => if (Int32.ofNat (z.2.2 q35)) ≤ x3 then (gf_Trains_sortByDigit_L84 F z  F u t0 x1 0) else (gf_nn (u.2.2 t0 2) fun q38 => if (x3 < 0 ∨ z.2.2 q38 ≤ (x3).toNatClampNeg) then none else gf_nm (u.1 q38 (x3).toNatClampNeg) fun a41 => gf_nn (u.2.2 t0 2) fun q43 => if (x3 < 0 ∨ z.2.2 q43 ≤ (x3).toNatClampNeg) then none else gf_nm (gw_wi u q43 (x3).toNatClampNeg x2) fun u46 => gf_nm (x2 + a41) fun a48 => gf_nm (x3 + 1) fun a50 => rc_47 u46 t0 x1 a48 a50)
def gf_Trains_sortByDigit_L47 (F : Nat) (z : gw_Sh)  : Nat → gw_St → Nat → Int32 → Int32 → Int32 → Option gw_St
  | 0 => fun _ _ _ _ _ => none
  | n + 1 => fun u t0 x1 x2 x3 => gf_Trains_sortByDigit_S47 F z  (gf_Trains_sortByDigit_L47 F z  n) u t0 x1 x2 x3
def gf_Trains_sortByDigit_S10 (F : Nat) (z : gw_Sh)  (rc_10 : gw_St → Nat → Int32 → Int32 → Option gw_St) (u : gw_St) (t0 : Nat) (x1 : Int32) (x2 : Int32) : Option gw_St :=
  if (u.1 t0 9) ≤ x2 then (gf_Trains_sortByDigit_L47 F z  F u t0 x1 0 0) else (gf_nn (u.2.2 t0 2) fun q53 => gf_nn (u.2.2 t0 0) fun q55 => if (x2 < 0 ∨ z.2.2 q55 ≤ (x2).toNatClampNeg) then none else gf_cl (gf_Trains_digit F z u (u.2.1 q55 (x2).toNatClampNeg) x1) fun a60 u58 => if (a60 < 0 ∨ z.2.2 q53 ≤ (a60).toNatClampNeg) then none else if (a60 < 0 ∨ z.2.2 q53 ≤ (a60).toNatClampNeg) then none else gf_nm (gw_wi u58 q53 (a60).toNatClampNeg ((u58.1 q53 (a60).toNatClampNeg) + (1 : Int32))) fun u63 => gf_nm (x2 + 1) fun a65 => rc_10 u63 t0 x1 a65)
def gf_Trains_sortByDigit_L10 (F : Nat) (z : gw_Sh)  : Nat → gw_St → Nat → Int32 → Int32 → Option gw_St
  | 0 => fun _ _ _ _ => none
  | n + 1 => fun u t0 x1 x2 => gf_Trains_sortByDigit_S10 F z  (gf_Trains_sortByDigit_L10 F z  n) u t0 x1 x2
def gf_Trains_sortByDigit_b0 (F : Nat) (z : gw_Sh)  (u : gw_St) (t0 : Nat) (x1 : Int32) : Option gw_St :=
  gf_nn (u.2.2 t0 2) fun q67 => (gf_Arrays_fill1 F z u q67 (0 : Int32)).bind fun u69 => gf_Trains_sortByDigit_L10 F z  F u69 t0 x1 0
def gf_Trains_sortByDigit (F : Nat) (z : gw_Sh) (u : gw_St) (t0 : Nat) (x1 : Int32) : Option gw_St := gf_Trains_sortByDigit_b0 F z  u t0 x1
set_option maxHeartbeats 4000000 in
set_option maxRecDepth 20000 in
theorem gx_Trains_sortByDigit_S84 {p : Program} {l : Launch} {e : Env} {s : State} {m : MethodId} {args : Array Value} {below : List Frame} {meth : Method} {c : Code} {D : va_G} {cA : Nat → ClassId} {hs : Nat → Nat} {z : gw_Sh} (F : Nat) {r0 : gw_St} (C : gw_Cx p s m args c gb_Trains_sortByDigit 5 R_Trains D cA) (hr : meth.sig.returnType = none) (hk : meth.locks = false) {rc_84 : gw_St → Nat → Int32 → Int32 → Option gw_St} (k_84 : ∀ (u : gw_St) (t0 : Nat) (x1 : Int32) (x3 : Int32) (H : Heap) (locs : List Loc) (ls : Array Slot), gw_ok z t0 1 → gw_Wx D cA hs z s u H locs → lv_has ls 5 [(0, .ref (hs t0)), (1, .int x1), (3, .int x3)] → rc_84 u t0 x1 x3 = some r0 → gw_Gv p l e gr_Trains_sortByDigit s m args below meth c D cA hs z r0 H locs ls 84 []) (u : gw_St) (t0 : Nat) (x1 : Int32) (x3 : Int32) (o_t0 : gw_ok z t0 1) {H : Heap} {locs : List Loc} {ls : Array Slot} (hW : gw_Wx D cA hs z s u H locs) (hl : lv_has ls 5 [(0, .ref (hs t0)), (1, .int x1), (3, .int x3)]) (h : gf_Trains_sortByDigit_S84 F z  rc_84 u t0 x1 x3 = some r0) : gw_Gv p l e gr_Trains_sortByDigit s m args below meth c D cA hs z r0 H locs ls 84 [] := by
  obtain ⟨hx, hb, hml, hown, hts, hK⟩ := id C
  unfold gf_Trains_sortByDigit_S84 at h
  refine lv_iload_n hx hb gd_Trains_sortByDigit_84 rfl (lv_at hl 2 rfl) ?_
  refine lv_aload_n hx hb gd_Trains_sortByDigit_85 rfl (lv_at hl 0 rfl) ?_
  refine gw_geti (k := 9) (ref := R_Trains) C hW o_t0 (by decide) rfl gi_Trains rfl (by decide) rfl rfl gk_135 gd_Trains_sortByDigit_86 ?_
  refine lv_icmp_ge (tgt := 139) hx hb gd_Trains_sortByDigit_89 (by decide) (fun c1 => ?_) (fun c1 => ?_)
  · have h := gf_t c1 h
    refine lv_aload_n hx hb gd_Trains_sortByDigit_139 rfl (lv_at hl 0 rfl) ?_
    obtain ⟨q2, e3, h⟩ := gf_nn_ok h
    refine gw_getr (k := 1) (ty := 11) (ref := R_Trains) C hW o_t0 (by decide) rfl gi_Trains rfl (by decide) rfl rfl gk_155 gd_Trains_sortByDigit_140 e3 ?_
    have o_q2 := hW.ref (d := 11) o_t0 e3 rfl
    refine lv_astore_n (lv' := [(3, .ref (hs q2)), (0, .ref (hs t0)), (1, .int x1)]) hx hb gd_Trains_sortByDigit_143 rfl hl (by decide) rfl (fun ls hl => ?_)
    refine lv_aload_n hx hb gd_Trains_sortByDigit_144 rfl (lv_at hl 1 rfl) ?_
    refine lv_aload_n hx hb gd_Trains_sortByDigit_145 rfl (lv_at hl 1 rfl) ?_
    obtain ⟨q4, e5, h⟩ := gf_nn_ok h
    refine gw_getr (k := 0) (ty := 11) (ref := R_Trains) C hW o_t0 (by decide) rfl gi_Trains rfl (by decide) rfl rfl gk_146 gd_Trains_sortByDigit_146 e5 ?_
    have o_q4 := hW.ref (d := 11) o_t0 e5 rfl
    refine gw_putr (k := 1) (ty := 11) (ref := R_Trains) (fty := .array .long) C hW o_t0 o_q4 (by decide) rfl gi_Trains rfl (by decide) rfl rfl gk_155 tf_Trains tf_Trains_ok nm_Trains rfl rfl (fun _ => rfl) (fun _ => rfl) gd_Trains_sortByDigit_149 (fun u6 H locs e7 hW => ?_)
    have h := gf_nm_ok e7 h
    refine lv_aload_n hx hb gd_Trains_sortByDigit_152 rfl (lv_at hl 1 rfl) ?_
    refine lv_aload_n hx hb gd_Trains_sortByDigit_153 rfl (lv_at hl 0 rfl) ?_
    refine gw_putr (k := 0) (ty := 11) (ref := R_Trains) (fty := .array .long) C hW o_t0 o_q2 (by decide) rfl gi_Trains rfl (by decide) rfl rfl gk_146 tf_Trains tf_Trains_ok nm_Trains rfl rfl (fun _ => rfl) (fun _ => rfl) gd_Trains_sortByDigit_154 (fun u8 H locs e9 hW => ?_)
    have h := gf_nm_ok e9 h
    obtain rfl := Option.some.inj h
    exact gw_vret C hW hr hk gd_Trains_sortByDigit_157
  · have h := gf_f c1 h
    refine lv_aload_n hx hb gd_Trains_sortByDigit_92 rfl (lv_at hl 0 rfl) ?_
    obtain ⟨q10, e11, h⟩ := gf_nn_ok h
    refine gw_getr (k := 0) (ty := 11) (ref := R_Trains) C hW o_t0 (by decide) rfl gi_Trains rfl (by decide) rfl rfl gk_146 gd_Trains_sortByDigit_93 e11 ?_
    have o_q10 := hW.ref (d := 11) o_t0 e11 rfl
    refine lv_iload_n hx hb gd_Trains_sortByDigit_96 rfl (lv_at hl 2 rfl) ?_
    obtain ⟨g12, h⟩ := gf_if_ok h
    refine gw_lald C hW o_q10 g12 gd_Trains_sortByDigit_97 ?_
    refine lv_iload_n hx hb gd_Trains_sortByDigit_98 rfl (lv_at hl 1 rfl) ?_
    obtain ⟨a15, u13, d14, h⟩ := gf_cl_ok h
    refine gw_callSi (As := [.long (u.2.1 q10 (x3).toNatClampNeg), .int x1]) (rest := []) C hW (fun _ h => Or.inr h) hl.1 gm_Trains_digit (gc_Trains_digit l F  d14 _) gk_156 gk_157 rfl rfl ⟨Nat.le_of_ble_eq_true rfl, Nat.le_of_ble_eq_true rfl⟩ ⟨Nat.zero_le _, Nat.zero_le _⟩ rfl rfl (Nat.le_of_ble_eq_true rfl) gd_Trains_sortByDigit_99 (fun H locs hW => ?_)
    refine lv_istore (lv' := [(4, .int a15), (0, .ref (hs t0)), (1, .int x1), (3, .int x3)]) hx hb gd_Trains_sortByDigit_102 hl (by decide) rfl (fun ls hl => ?_)
    refine lv_aload_n hx hb gd_Trains_sortByDigit_104 rfl (lv_at hl 1 rfl) ?_
    obtain ⟨q16, e17, h⟩ := gf_nn_ok h
    refine gw_getr (k := 1) (ty := 11) (ref := R_Trains) C hW o_t0 (by decide) rfl gi_Trains rfl (by decide) rfl rfl gk_155 gd_Trains_sortByDigit_105 e17 ?_
    have o_q16 := hW.ref (d := 11) o_t0 e17 rfl
    refine lv_aload_n hx hb gd_Trains_sortByDigit_108 rfl (lv_at hl 1 rfl) ?_
    obtain ⟨q18, e19, h⟩ := gf_nn_ok h
    refine gw_getr (k := 2) (ty := 10) (ref := R_Trains) C hW o_t0 (by decide) rfl gi_Trains rfl (by decide) rfl rfl gk_158 gd_Trains_sortByDigit_109 e19 ?_
    have o_q18 := hW.ref (d := 10) o_t0 e19 rfl
    refine lv_iload hx hb gd_Trains_sortByDigit_112 (lv_at hl 0 rfl) ?_
    obtain ⟨g20, h⟩ := gf_if_ok h
    refine gw_iald C hW o_q18 g20 gd_Trains_sortByDigit_114 ?_
    refine lv_aload_n hx hb gd_Trains_sortByDigit_115 rfl (lv_at hl 1 rfl) ?_
    obtain ⟨q21, e22, h⟩ := gf_nn_ok h
    refine gw_getr (k := 0) (ty := 11) (ref := R_Trains) C hW o_t0 (by decide) rfl gi_Trains rfl (by decide) rfl rfl gk_146 gd_Trains_sortByDigit_116 e22 ?_
    have o_q21 := hW.ref (d := 11) o_t0 e22 rfl
    refine lv_iload_n hx hb gd_Trains_sortByDigit_119 rfl (lv_at hl 3 rfl) ?_
    obtain ⟨g23, h⟩ := gf_if_ok h
    refine gw_lald C hW o_q21 g23 gd_Trains_sortByDigit_120 ?_
    obtain ⟨g24, h⟩ := gf_if_ok h
    refine gw_last C hW o_q16 g24 gd_Trains_sortByDigit_121 (fun u25 H locs e26 hW => ?_)
    have h := gf_nm_ok e26 h
    refine lv_aload_n hx hb gd_Trains_sortByDigit_122 rfl (lv_at hl 1 rfl) ?_
    obtain ⟨q27, e28, h⟩ := gf_nn_ok h
    refine gw_getr (k := 2) (ty := 10) (ref := R_Trains) C hW o_t0 (by decide) rfl gi_Trains rfl (by decide) rfl rfl gk_158 gd_Trains_sortByDigit_123 e28 ?_
    have o_q27 := hW.ref (d := 10) o_t0 e28 rfl
    refine lv_iload hx hb gd_Trains_sortByDigit_126 (lv_at hl 0 rfl) ?_
    refine lv_dup2_11 hx hb gd_Trains_sortByDigit_128 rfl rfl ?_
    obtain ⟨g29, h⟩ := gf_if_ok h
    refine gw_iald C hW o_q27 g29 gd_Trains_sortByDigit_129 ?_
    refine lv_iconst (v := 1) hx hb gd_Trains_sortByDigit_130 (by decide) ?_
    refine lv_iadd hx hb gd_Trains_sortByDigit_131 ?_
    obtain ⟨g30, h⟩ := gf_if_ok h
    refine gw_iast C hW o_q27 g30 gd_Trains_sortByDigit_132 (fun u31 H locs e32 hW => ?_)
    have h := gf_nm_ok e32 h
    obtain ⟨a33, e34⟩ : ∃ y : Int32, y = x3 + 1 := ⟨_, rfl⟩
    have h := gf_nm_ok e34 h
    refine lv_iinc (v := a33) (lv' := [(3, .int a33), (4, .int a15), (0, .ref (hs t0)), (1, .int x1)]) hx hb gd_Trains_sortByDigit_133 hl (k := 3) rfl (by rw [e34]; rfl) (by decide) rfl (fun ls hl => ?_)
    refine lv_goto (tgt := 84) hx hb gd_Trains_sortByDigit_136 (by decide) ?_
    exact k_84 u31 t0 x1 a33 _ _ _ o_t0 hW (lv_sub hl [2, 3, 0] rfl) h
set_option maxHeartbeats 4000000 in
set_option maxRecDepth 20000 in
theorem gx_Trains_sortByDigit_L84 {p : Program} {l : Launch} {e : Env} {s : State} {m : MethodId} {args : Array Value} {below : List Frame} {meth : Method} {c : Code} {D : va_G} {cA : Nat → ClassId} {hs : Nat → Nat} {z : gw_Sh} (F : Nat) {r0 : gw_St} (C : gw_Cx p s m args c gb_Trains_sortByDigit 5 R_Trains D cA) (hr : meth.sig.returnType = none) (hk : meth.locks = false) : ∀ (n : Nat), ∀ (u : gw_St) (t0 : Nat) (x1 : Int32) (x3 : Int32) (H : Heap) (locs : List Loc) (ls : Array Slot), gw_ok z t0 1 → gw_Wx D cA hs z s u H locs → lv_has ls 5 [(0, .ref (hs t0)), (1, .int x1), (3, .int x3)] → gf_Trains_sortByDigit_L84 F z  n u t0 x1 x3 = some r0 → gw_Gv p l e gr_Trains_sortByDigit s m args below meth c D cA hs z r0 H locs ls 84 [] := by
  intro n
  induction n with
  | zero =>
    intro u t0 x1 x3 H locs ls o_t0 hW hl h
    cases h
  | succ n ih =>
    intro u t0 x1 x3 H locs ls o_t0 hW hl h
    exact gx_Trains_sortByDigit_S84 F C hr hk  ih u t0 x1 x3 o_t0 hW hl h

set_option maxHeartbeats 4000000 in
set_option maxRecDepth 20000 in
theorem gx_Trains_sortByDigit_S47 {p : Program} {l : Launch} {e : Env} {s : State} {m : MethodId} {args : Array Value} {below : List Frame} {meth : Method} {c : Code} {D : va_G} {cA : Nat → ClassId} {hs : Nat → Nat} {z : gw_Sh} (F : Nat) {r0 : gw_St} (C : gw_Cx p s m args c gb_Trains_sortByDigit 5 R_Trains D cA) (hr : meth.sig.returnType = none) (hk : meth.locks = false) {rc_47 : gw_St → Nat → Int32 → Int32 → Int32 → Option gw_St} (k_47 : ∀ (u : gw_St) (t0 : Nat) (x1 : Int32) (x2 : Int32) (x3 : Int32) (H : Heap) (locs : List Loc) (ls : Array Slot), gw_ok z t0 1 → gw_Wx D cA hs z s u H locs → lv_has ls 5 [(0, .ref (hs t0)), (1, .int x1), (2, .int x2), (3, .int x3)] → rc_47 u t0 x1 x2 x3 = some r0 → gw_Gv p l e gr_Trains_sortByDigit s m args below meth c D cA hs z r0 H locs ls 47 []) (u : gw_St) (t0 : Nat) (x1 : Int32) (x2 : Int32) (x3 : Int32) (o_t0 : gw_ok z t0 1) {H : Heap} {locs : List Loc} {ls : Array Slot} (hW : gw_Wx D cA hs z s u H locs) (hl : lv_has ls 5 [(0, .ref (hs t0)), (1, .int x1), (2, .int x2), (3, .int x3)]) (h : gf_Trains_sortByDigit_S47 F z  rc_47 u t0 x1 x2 x3 = some r0) : gw_Gv p l e gr_Trains_sortByDigit s m args below meth c D cA hs z r0 H locs ls 47 [] := by
  obtain ⟨hx, hb, hml, hown, hts, hK⟩ := id C
  unfold gf_Trains_sortByDigit_S47 at h
  refine lv_iload_n hx hb gd_Trains_sortByDigit_47 rfl (lv_at hl 3 rfl) ?_
  refine lv_aload_n hx hb gd_Trains_sortByDigit_48 rfl (lv_at hl 0 rfl) ?_
  obtain ⟨q35, e36, h⟩ := gf_nn_ok h
  refine gw_getr (k := 2) (ty := 10) (ref := R_Trains) C hW o_t0 (by decide) rfl gi_Trains rfl (by decide) rfl rfl gk_158 gd_Trains_sortByDigit_49 e36 ?_
  have o_q35 := hW.ref (d := 10) o_t0 e36 rfl
  refine gw_leni C hW o_q35 gd_Trains_sortByDigit_52 ?_
  refine lv_icmp_ge (tgt := 82) hx hb gd_Trains_sortByDigit_53 (by decide) (fun c37 => ?_) (fun c37 => ?_)
  · have h := gf_t c37 h
    refine lv_iconst (v := 0) hx hb gd_Trains_sortByDigit_82 (by decide) ?_
    refine lv_istore_n (lv' := [(3, .int 0), (0, .ref (hs t0)), (1, .int x1), (2, .int x2)]) hx hb gd_Trains_sortByDigit_83 rfl hl (by decide) rfl (fun ls hl => ?_)
    exact gx_Trains_sortByDigit_L84 F C hr hk  F u t0 x1 0 _ _ _ o_t0 hW (lv_sub hl [1, 2, 0] rfl) h
  · have h := gf_f c37 h
    refine lv_aload_n hx hb gd_Trains_sortByDigit_56 rfl (lv_at hl 0 rfl) ?_
    obtain ⟨q38, e39, h⟩ := gf_nn_ok h
    refine gw_getr (k := 2) (ty := 10) (ref := R_Trains) C hW o_t0 (by decide) rfl gi_Trains rfl (by decide) rfl rfl gk_158 gd_Trains_sortByDigit_57 e39 ?_
    have o_q38 := hW.ref (d := 10) o_t0 e39 rfl
    refine lv_iload_n hx hb gd_Trains_sortByDigit_60 rfl (lv_at hl 3 rfl) ?_
    obtain ⟨g40, h⟩ := gf_if_ok h
    refine gw_iald C hW o_q38 g40 gd_Trains_sortByDigit_61 ?_
    refine lv_topi (fun a41 e42 => ?_)
    have h := gf_nm_ok e42 h
    refine lv_istore (lv' := [(4, .int a41), (0, .ref (hs t0)), (1, .int x1), (2, .int x2), (3, .int x3)]) hx hb gd_Trains_sortByDigit_62 hl (by decide) rfl (fun ls hl => ?_)
    refine lv_aload_n hx hb gd_Trains_sortByDigit_64 rfl (lv_at hl 1 rfl) ?_
    obtain ⟨q43, e44, h⟩ := gf_nn_ok h
    refine gw_getr (k := 2) (ty := 10) (ref := R_Trains) C hW o_t0 (by decide) rfl gi_Trains rfl (by decide) rfl rfl gk_158 gd_Trains_sortByDigit_65 e44 ?_
    have o_q43 := hW.ref (d := 10) o_t0 e44 rfl
    refine lv_iload_n hx hb gd_Trains_sortByDigit_68 rfl (lv_at hl 4 rfl) ?_
    refine lv_iload_n hx hb gd_Trains_sortByDigit_69 rfl (lv_at hl 3 rfl) ?_
    obtain ⟨g45, h⟩ := gf_if_ok h
    refine gw_iast C hW o_q43 g45 gd_Trains_sortByDigit_70 (fun u46 H locs e47 hW => ?_)
    have h := gf_nm_ok e47 h
    refine lv_iload_n hx hb gd_Trains_sortByDigit_71 rfl (lv_at hl 3 rfl) ?_
    refine lv_iload hx hb gd_Trains_sortByDigit_72 (lv_at hl 0 rfl) ?_
    refine lv_iadd hx hb gd_Trains_sortByDigit_74 ?_
    refine lv_topi (fun a48 e49 => ?_)
    have h := gf_nm_ok e49 h
    refine lv_istore_n (lv' := [(2, .int a48), (4, .int a41), (0, .ref (hs t0)), (1, .int x1), (3, .int x3)]) hx hb gd_Trains_sortByDigit_75 rfl hl (by decide) rfl (fun ls hl => ?_)
    obtain ⟨a50, e51⟩ : ∃ y : Int32, y = x3 + 1 := ⟨_, rfl⟩
    have h := gf_nm_ok e51 h
    refine lv_iinc (v := a50) (lv' := [(3, .int a50), (2, .int a48), (4, .int a41), (0, .ref (hs t0)), (1, .int x1)]) hx hb gd_Trains_sortByDigit_76 hl (k := 4) rfl (by rw [e51]; rfl) (by decide) rfl (fun ls hl => ?_)
    refine lv_goto (tgt := 47) hx hb gd_Trains_sortByDigit_79 (by decide) ?_
    exact k_47 u46 t0 x1 a48 a50 _ _ _ o_t0 hW (lv_sub hl [3, 4, 1, 0] rfl) h
set_option maxHeartbeats 4000000 in
set_option maxRecDepth 20000 in
theorem gx_Trains_sortByDigit_L47 {p : Program} {l : Launch} {e : Env} {s : State} {m : MethodId} {args : Array Value} {below : List Frame} {meth : Method} {c : Code} {D : va_G} {cA : Nat → ClassId} {hs : Nat → Nat} {z : gw_Sh} (F : Nat) {r0 : gw_St} (C : gw_Cx p s m args c gb_Trains_sortByDigit 5 R_Trains D cA) (hr : meth.sig.returnType = none) (hk : meth.locks = false) : ∀ (n : Nat), ∀ (u : gw_St) (t0 : Nat) (x1 : Int32) (x2 : Int32) (x3 : Int32) (H : Heap) (locs : List Loc) (ls : Array Slot), gw_ok z t0 1 → gw_Wx D cA hs z s u H locs → lv_has ls 5 [(0, .ref (hs t0)), (1, .int x1), (2, .int x2), (3, .int x3)] → gf_Trains_sortByDigit_L47 F z  n u t0 x1 x2 x3 = some r0 → gw_Gv p l e gr_Trains_sortByDigit s m args below meth c D cA hs z r0 H locs ls 47 [] := by
  intro n
  induction n with
  | zero =>
    intro u t0 x1 x2 x3 H locs ls o_t0 hW hl h
    cases h
  | succ n ih =>
    intro u t0 x1 x2 x3 H locs ls o_t0 hW hl h
    exact gx_Trains_sortByDigit_S47 F C hr hk  ih u t0 x1 x2 x3 o_t0 hW hl h

set_option maxHeartbeats 4000000 in
set_option maxRecDepth 20000 in
theorem gx_Trains_sortByDigit_S10 {p : Program} {l : Launch} {e : Env} {s : State} {m : MethodId} {args : Array Value} {below : List Frame} {meth : Method} {c : Code} {D : va_G} {cA : Nat → ClassId} {hs : Nat → Nat} {z : gw_Sh} (F : Nat) {r0 : gw_St} (C : gw_Cx p s m args c gb_Trains_sortByDigit 5 R_Trains D cA) (hr : meth.sig.returnType = none) (hk : meth.locks = false) {rc_10 : gw_St → Nat → Int32 → Int32 → Option gw_St} (k_10 : ∀ (u : gw_St) (t0 : Nat) (x1 : Int32) (x2 : Int32) (H : Heap) (locs : List Loc) (ls : Array Slot), gw_ok z t0 1 → gw_Wx D cA hs z s u H locs → lv_has ls 5 [(0, .ref (hs t0)), (1, .int x1), (2, .int x2)] → rc_10 u t0 x1 x2 = some r0 → gw_Gv p l e gr_Trains_sortByDigit s m args below meth c D cA hs z r0 H locs ls 10 []) (u : gw_St) (t0 : Nat) (x1 : Int32) (x2 : Int32) (o_t0 : gw_ok z t0 1) {H : Heap} {locs : List Loc} {ls : Array Slot} (hW : gw_Wx D cA hs z s u H locs) (hl : lv_has ls 5 [(0, .ref (hs t0)), (1, .int x1), (2, .int x2)]) (h : gf_Trains_sortByDigit_S10 F z  rc_10 u t0 x1 x2 = some r0) : gw_Gv p l e gr_Trains_sortByDigit s m args below meth c D cA hs z r0 H locs ls 10 [] := by
  obtain ⟨hx, hb, hml, hown, hts, hK⟩ := id C
  unfold gf_Trains_sortByDigit_S10 at h
  refine lv_iload_n hx hb gd_Trains_sortByDigit_10 rfl (lv_at hl 2 rfl) ?_
  refine lv_aload_n hx hb gd_Trains_sortByDigit_11 rfl (lv_at hl 0 rfl) ?_
  refine gw_geti (k := 9) (ref := R_Trains) C hW o_t0 (by decide) rfl gi_Trains rfl (by decide) rfl rfl gk_135 gd_Trains_sortByDigit_12 ?_
  refine lv_icmp_ge (tgt := 43) hx hb gd_Trains_sortByDigit_15 (by decide) (fun c52 => ?_) (fun c52 => ?_)
  · have h := gf_t c52 h
    refine lv_iconst (v := 0) hx hb gd_Trains_sortByDigit_43 (by decide) ?_
    refine lv_istore_n (lv' := [(2, .int 0), (0, .ref (hs t0)), (1, .int x1)]) hx hb gd_Trains_sortByDigit_44 rfl hl (by decide) rfl (fun ls hl => ?_)
    refine lv_iconst (v := 0) hx hb gd_Trains_sortByDigit_45 (by decide) ?_
    refine lv_istore_n (lv' := [(3, .int 0), (2, .int 0), (0, .ref (hs t0)), (1, .int x1)]) hx hb gd_Trains_sortByDigit_46 rfl hl (by decide) rfl (fun ls hl => ?_)
    exact gx_Trains_sortByDigit_L47 F C hr hk  F u t0 x1 0 0 _ _ _ o_t0 hW (lv_sub hl [2, 3, 1, 0] rfl) h
  · have h := gf_f c52 h
    refine lv_aload_n hx hb gd_Trains_sortByDigit_18 rfl (lv_at hl 0 rfl) ?_
    obtain ⟨q53, e54, h⟩ := gf_nn_ok h
    refine gw_getr (k := 2) (ty := 10) (ref := R_Trains) C hW o_t0 (by decide) rfl gi_Trains rfl (by decide) rfl rfl gk_158 gd_Trains_sortByDigit_19 e54 ?_
    have o_q53 := hW.ref (d := 10) o_t0 e54 rfl
    refine lv_aload_n hx hb gd_Trains_sortByDigit_22 rfl (lv_at hl 0 rfl) ?_
    obtain ⟨q55, e56, h⟩ := gf_nn_ok h
    refine gw_getr (k := 0) (ty := 11) (ref := R_Trains) C hW o_t0 (by decide) rfl gi_Trains rfl (by decide) rfl rfl gk_146 gd_Trains_sortByDigit_23 e56 ?_
    have o_q55 := hW.ref (d := 11) o_t0 e56 rfl
    refine lv_iload_n hx hb gd_Trains_sortByDigit_26 rfl (lv_at hl 2 rfl) ?_
    obtain ⟨g57, h⟩ := gf_if_ok h
    refine gw_lald C hW o_q55 g57 gd_Trains_sortByDigit_27 ?_
    refine lv_iload_n hx hb gd_Trains_sortByDigit_28 rfl (lv_at hl 1 rfl) ?_
    obtain ⟨a60, u58, d59, h⟩ := gf_cl_ok h
    refine gw_callSi (As := [.long (u.2.1 q55 (x2).toNatClampNeg), .int x1]) (rest := [.ref (hs q53)]) C hW (fun _ h => Or.inr h) hl.1 gm_Trains_digit (gc_Trains_digit l F  d59 _) gk_156 gk_157 rfl rfl ⟨Nat.le_of_ble_eq_true rfl, Nat.le_of_ble_eq_true rfl⟩ ⟨Nat.zero_le _, Nat.zero_le _⟩ rfl rfl (Nat.le_of_ble_eq_true rfl) gd_Trains_sortByDigit_29 (fun H locs hW => ?_)
    refine lv_dup2_11 hx hb gd_Trains_sortByDigit_32 rfl rfl ?_
    obtain ⟨g61, h⟩ := gf_if_ok h
    refine gw_iald C hW o_q53 g61 gd_Trains_sortByDigit_33 ?_
    refine lv_iconst (v := 1) hx hb gd_Trains_sortByDigit_34 (by decide) ?_
    refine lv_iadd hx hb gd_Trains_sortByDigit_35 ?_
    obtain ⟨g62, h⟩ := gf_if_ok h
    refine gw_iast C hW o_q53 g62 gd_Trains_sortByDigit_36 (fun u63 H locs e64 hW => ?_)
    have h := gf_nm_ok e64 h
    obtain ⟨a65, e66⟩ : ∃ y : Int32, y = x2 + 1 := ⟨_, rfl⟩
    have h := gf_nm_ok e66 h
    refine lv_iinc (v := a65) (lv' := [(2, .int a65), (0, .ref (hs t0)), (1, .int x1)]) hx hb gd_Trains_sortByDigit_37 hl (k := 2) rfl (by rw [e66]; rfl) (by decide) rfl (fun ls hl => ?_)
    refine lv_goto (tgt := 10) hx hb gd_Trains_sortByDigit_40 (by decide) ?_
    exact k_10 u63 t0 x1 a65 _ _ _ o_t0 hW (lv_sub hl [1, 2, 0] rfl) h
set_option maxHeartbeats 4000000 in
set_option maxRecDepth 20000 in
theorem gx_Trains_sortByDigit_L10 {p : Program} {l : Launch} {e : Env} {s : State} {m : MethodId} {args : Array Value} {below : List Frame} {meth : Method} {c : Code} {D : va_G} {cA : Nat → ClassId} {hs : Nat → Nat} {z : gw_Sh} (F : Nat) {r0 : gw_St} (C : gw_Cx p s m args c gb_Trains_sortByDigit 5 R_Trains D cA) (hr : meth.sig.returnType = none) (hk : meth.locks = false) : ∀ (n : Nat), ∀ (u : gw_St) (t0 : Nat) (x1 : Int32) (x2 : Int32) (H : Heap) (locs : List Loc) (ls : Array Slot), gw_ok z t0 1 → gw_Wx D cA hs z s u H locs → lv_has ls 5 [(0, .ref (hs t0)), (1, .int x1), (2, .int x2)] → gf_Trains_sortByDigit_L10 F z  n u t0 x1 x2 = some r0 → gw_Gv p l e gr_Trains_sortByDigit s m args below meth c D cA hs z r0 H locs ls 10 [] := by
  intro n
  induction n with
  | zero =>
    intro u t0 x1 x2 H locs ls o_t0 hW hl h
    cases h
  | succ n ih =>
    intro u t0 x1 x2 H locs ls o_t0 hW hl h
    exact gx_Trains_sortByDigit_S10 F C hr hk  ih u t0 x1 x2 o_t0 hW hl h

set_option maxHeartbeats 4000000 in
set_option maxRecDepth 20000 in
theorem gx_Trains_sortByDigit_b0 {p : Program} {l : Launch} {e : Env} {s : State} {m : MethodId} {args : Array Value} {below : List Frame} {meth : Method} {c : Code} {D : va_G} {cA : Nat → ClassId} {hs : Nat → Nat} {z : gw_Sh} (F : Nat) {r0 : gw_St} (C : gw_Cx p s m args c gb_Trains_sortByDigit 5 R_Trains D cA) (hr : meth.sig.returnType = none) (hk : meth.locks = false) (u : gw_St) (t0 : Nat) (x1 : Int32) (o_t0 : gw_ok z t0 1) {H : Heap} {locs : List Loc} {ls : Array Slot} (hW : gw_Wx D cA hs z s u H locs) (hl : lv_has ls 5 [(0, .ref (hs t0)), (1, .int x1)]) (h : gf_Trains_sortByDigit_b0 F z   u t0 x1 = some r0) : gw_Gv p l e gr_Trains_sortByDigit s m args below meth c D cA hs z r0 H locs ls 0 [] := by
  obtain ⟨hx, hb, hml, hown, hts, hK⟩ := id C
  unfold gf_Trains_sortByDigit_b0 at h
  refine lv_aload_n hx hb gd_Trains_sortByDigit_0 rfl (lv_at hl 0 rfl) ?_
  obtain ⟨q67, e68, h⟩ := gf_nn_ok h
  refine gw_getr (k := 2) (ty := 10) (ref := R_Trains) C hW o_t0 (by decide) rfl gi_Trains rfl (by decide) rfl rfl gk_158 gd_Trains_sortByDigit_1 e68 ?_
  have o_q67 := hW.ref (d := 10) o_t0 e68 rfl
  refine lv_iconst (v := 0) hx hb gd_Trains_sortByDigit_4 (by decide) ?_
  obtain ⟨u69, d70, h⟩ := gf_bd_ok h
  refine gw_callSv (As := [.ref (hs q67), .int (0 : Int32)]) (rest := []) C hW (fun _ h => Or.inr h) hl.1 gm_Arrays_fill1 (gc_Arrays_fill1 l F o_q67 d70 _) gk_150 gk_151 rfl rfl ⟨Nat.le_of_ble_eq_true rfl, Nat.le_of_ble_eq_true rfl⟩ ⟨Nat.zero_le _, Nat.zero_le _⟩ rfl rfl (Nat.le_of_ble_eq_true rfl) gd_Trains_sortByDigit_5 (fun H locs hW => ?_)
  refine lv_iconst (v := 0) hx hb gd_Trains_sortByDigit_8 (by decide) ?_
  refine lv_istore_n (lv' := [(2, .int 0), (0, .ref (hs t0)), (1, .int x1)]) hx hb gd_Trains_sortByDigit_9 rfl hl (by decide) rfl (fun ls hl => ?_)
  exact gx_Trains_sortByDigit_L10 F C hr hk  F u69 t0 x1 0 _ _ _ o_t0 hW (lv_sub hl [1, 2, 0] rfl) h

set_option maxRecDepth 20000 in
theorem gc_Trains_sortByDigit (l : Launch) {D : va_G} {cA : Nat → ClassId} {hs : Nat → Nat} {z : gw_Sh} (F : Nat) {u : gw_St} {r0 : gw_St} {t0 : Nat} {x1 : Int32} (o_t0 : gw_ok z t0 1) (h : gf_Trains_sortByDigit F z u t0 x1 = some r0) (sz : Nat) : gw_Mv l gy_Trains_sortByDigit gb_Trains_sortByDigit 5 none gr_Trains_sortByDigit [.ref (hs t0), .int x1] D cA hs z u sz r0 := by
  refine gw_enter (by decide) (Nat.le_of_ble_eq_true rfl) ?_
  intro p e s m below meth c ls hsz C hW hr hk _ hl
  subst hsz
  exact gx_Trains_sortByDigit_b0 F C hr hk u t0 x1 o_t0 hW (lv_sub hl [0, 1] rfl) h
-- GearDesk$Trains.sortByProduct()V
theorem gk_160 : Cond.methodLink R_Trains 110 gy_Trains_sortByDigit ∈ gt_T := gt_m4 (List.mem_of_getElem? (i := 86) rfl) rfl
theorem gk_161 : Cond.instanceMethod gy_Trains_sortByDigit ∈ gt_T := gt_m4 (List.mem_of_getElem? (i := 88) rfl) rfl
theorem gk_162 : Cond.selects R_Trains gy_Trains_sortByDigit gy_Trains_sortByDigit ∈ gt_T := gt_p1 (List.mem_of_getElem? (i := 6) rfl) rfl
theorem gk_163 : Cond.methodLink R_Trains 72 gy_Trains_product ∈ gt_T := gt_m4 (List.mem_of_getElem? (i := 83) rfl) rfl
theorem gk_164 : Cond.static gy_Trains_product ∈ gt_T := gt_m4 (List.mem_of_getElem? (i := 84) rfl) rfl
def gy_Trains_sortByProduct : MethodName := ⟨R_Trains, "sortByProduct", "()V"⟩
abbrev gb_Trains_sortByProduct : ByteArray := prog_7_method_12_code
theorem gk_165 : Cond.code gy_Trains_sortByProduct gb_Trains_sortByProduct 4 none ∈ gt_T := gt_m4 (List.mem_of_getElem? (i := 82) rfl) rfl
def gr_Trains_sortByProduct : Room := gw_rm 3 111
theorem gm_Trains_sortByProduct : gw_Mth gy_Trains_sortByProduct gb_Trains_sortByProduct 4 none 0 := ⟨gk_165, gk_131, ⟨by decide +kernel, by decide +kernel⟩, by decide +kernel⟩
theorem gd_Trains_sortByProduct_0 : decode gb_Trains_sortByProduct 0 = .ok (.aload_n 0, 1) := by decide +kernel
theorem gd_Trains_sortByProduct_1 : decode gb_Trains_sortByProduct 1 = .ok (.getfield 12, 3) := by decide +kernel
theorem gd_Trains_sortByProduct_4 : decode gb_Trains_sortByProduct 4 = .ok (.aload_n 0, 1) := by decide +kernel
theorem gd_Trains_sortByProduct_5 : decode gb_Trains_sortByProduct 5 = .ok (.getfield 43, 3) := by decide +kernel
theorem gd_Trains_sortByProduct_8 : decode gb_Trains_sortByProduct 8 = .ok (.iconst 1, 1) := by decide +kernel
theorem gd_Trains_sortByProduct_9 : decode gb_Trains_sortByProduct 9 = .ok (.isub, 1) := by decide +kernel
theorem gd_Trains_sortByProduct_10 : decode gb_Trains_sortByProduct 10 = .ok (.laload, 1) := by decide +kernel
theorem gd_Trains_sortByProduct_11 : decode gb_Trains_sortByProduct 11 = .ok (.invokestatic 72, 3) := by decide +kernel
theorem gd_Trains_sortByProduct_14 : decode gb_Trains_sortByProduct 14 = .ok (.lstore_n 1, 1) := by decide +kernel
theorem gd_Trains_sortByProduct_15 : decode gb_Trains_sortByProduct 15 = .ok (.iconst 0, 1) := by decide +kernel
theorem gd_Trains_sortByProduct_16 : decode gb_Trains_sortByProduct 16 = .ok (.istore_n 3, 1) := by decide +kernel
theorem gd_Trains_sortByProduct_17 : decode gb_Trains_sortByProduct 17 = .ok (.iload_n 3, 1) := by decide +kernel
theorem gd_Trains_sortByProduct_18 : decode gb_Trains_sortByProduct 18 = .ok (.bipush 28, 2) := by decide +kernel
theorem gd_Trains_sortByProduct_20 : decode gb_Trains_sortByProduct 20 = .ok (.if_icmp .ge 25, 3) := by decide +kernel
theorem gd_Trains_sortByProduct_23 : decode gb_Trains_sortByProduct 23 = .ok (.lload_n 1, 1) := by decide +kernel
theorem gd_Trains_sortByProduct_24 : decode gb_Trains_sortByProduct 24 = .ok (.iload_n 3, 1) := by decide +kernel
theorem gd_Trains_sortByProduct_25 : decode gb_Trains_sortByProduct 25 = .ok (.lshr, 1) := by decide +kernel
theorem gd_Trains_sortByProduct_26 : decode gb_Trains_sortByProduct 26 = .ok (.lconst 0, 1) := by decide +kernel
theorem gd_Trains_sortByProduct_27 : decode gb_Trains_sortByProduct 27 = .ok (.lcmp, 1) := by decide +kernel
theorem gd_Trains_sortByProduct_28 : decode gb_Trains_sortByProduct 28 = .ok (.ifCond .le 17, 3) := by decide +kernel
theorem gd_Trains_sortByProduct_31 : decode gb_Trains_sortByProduct 31 = .ok (.aload_n 0, 1) := by decide +kernel
theorem gd_Trains_sortByProduct_32 : decode gb_Trains_sortByProduct 32 = .ok (.bipush 28, 2) := by decide +kernel
theorem gd_Trains_sortByProduct_34 : decode gb_Trains_sortByProduct 34 = .ok (.iload_n 3, 1) := by decide +kernel
theorem gd_Trains_sortByProduct_35 : decode gb_Trains_sortByProduct 35 = .ok (.iadd, 1) := by decide +kernel
theorem gd_Trains_sortByProduct_36 : decode gb_Trains_sortByProduct 36 = .ok (.invokevirtual 110, 3) := by decide +kernel
theorem gd_Trains_sortByProduct_39 : decode gb_Trains_sortByProduct 39 = .ok (.iinc 3 11, 3) := by decide +kernel
theorem gd_Trains_sortByProduct_42 : decode gb_Trains_sortByProduct 42 = .ok (.goto (-25), 3) := by decide +kernel
theorem gd_Trains_sortByProduct_45 : decode gb_Trains_sortByProduct 45 = .ok (.return_, 1) := by decide +kernel
def gf_Trains_sortByProduct_b45 (F : Nat) (z : gw_Sh)  (u : gw_St)  : Option gw_St :=
  some u
def gf_Trains_sortByProduct_S17 (F : Nat) (z : gw_Sh)  (rc_17 : gw_St → Nat → Int64 → Int32 → Option gw_St) (u : gw_St) (t0 : Nat) (y1 : Int64) (x3 : Int32) : Option gw_St :=
  if (28 : Int32) ≤ x3 then (gf_Trains_sortByProduct_b45 F z  u ) else (if (lg_cmp (y1 >>> ((x3).toInt64 &&& 63)) (0 : Int64)) ≤ 0 then (gf_Trains_sortByProduct_b45 F z  u ) else ((gf_Trains_sortByDigit F z u t0 ((28 : Int32) + x3)).bind fun u3 => gf_nm (x3 + 11) fun a5 => rc_17 u3 t0 y1 a5))
def gf_Trains_sortByProduct_L17 (F : Nat) (z : gw_Sh)  : Nat → gw_St → Nat → Int64 → Int32 → Option gw_St
  | 0 => fun _ _ _ _ => none
  | n + 1 => fun u t0 y1 x3 => gf_Trains_sortByProduct_S17 F z  (gf_Trains_sortByProduct_L17 F z  n) u t0 y1 x3
def gf_Trains_sortByProduct_b0 (F : Nat) (z : gw_Sh)  (u : gw_St) (t0 : Nat) : Option gw_St :=
  gf_nn (u.2.2 t0 0) fun q7 => if (((u.1 t0 9) - (1 : Int32)) < 0 ∨ z.2.2 q7 ≤ (((u.1 t0 9) - (1 : Int32))).toNatClampNeg) then none else gf_cl (gf_Trains_product F z u (u.2.1 q7 (((u.1 t0 9) - (1 : Int32))).toNatClampNeg)) fun a12 u10 => gf_Trains_sortByProduct_L17 F z  F u10 t0 a12 0
def gf_Trains_sortByProduct (F : Nat) (z : gw_Sh) (u : gw_St) (t0 : Nat) : Option gw_St := gf_Trains_sortByProduct_b0 F z  u t0
set_option maxHeartbeats 4000000 in
set_option maxRecDepth 20000 in
theorem gx_Trains_sortByProduct_b45 {p : Program} {l : Launch} {e : Env} {s : State} {m : MethodId} {args : Array Value} {below : List Frame} {meth : Method} {c : Code} {D : va_G} {cA : Nat → ClassId} {hs : Nat → Nat} {z : gw_Sh} (F : Nat) {r0 : gw_St} (C : gw_Cx p s m args c gb_Trains_sortByProduct 4 R_Trains D cA) (hr : meth.sig.returnType = none) (hk : meth.locks = false) (u : gw_St)   {H : Heap} {locs : List Loc} {ls : Array Slot} (hW : gw_Wx D cA hs z s u H locs) (hl : lv_has ls 4 []) (h : gf_Trains_sortByProduct_b45 F z   u  = some r0) : gw_Gv p l e gr_Trains_sortByProduct s m args below meth c D cA hs z r0 H locs ls 45 [] := by
  obtain ⟨hx, hb, hml, hown, hts, hK⟩ := id C
  unfold gf_Trains_sortByProduct_b45 at h
  obtain rfl := Option.some.inj h
  exact gw_vret C hW hr hk gd_Trains_sortByProduct_45

set_option maxHeartbeats 4000000 in
set_option maxRecDepth 20000 in
theorem gx_Trains_sortByProduct_S17 {p : Program} {l : Launch} {e : Env} {s : State} {m : MethodId} {args : Array Value} {below : List Frame} {meth : Method} {c : Code} {D : va_G} {cA : Nat → ClassId} {hs : Nat → Nat} {z : gw_Sh} (F : Nat) {r0 : gw_St} (C : gw_Cx p s m args c gb_Trains_sortByProduct 4 R_Trains D cA) (hr : meth.sig.returnType = none) (hk : meth.locks = false) {rc_17 : gw_St → Nat → Int64 → Int32 → Option gw_St} (k_17 : ∀ (u : gw_St) (t0 : Nat) (y1 : Int64) (x3 : Int32) (H : Heap) (locs : List Loc) (ls : Array Slot), gw_ok z t0 1 → gw_Wx D cA hs z s u H locs → lv_has ls 4 [(0, .ref (hs t0)), (1, .long y1), (3, .int x3)] → rc_17 u t0 y1 x3 = some r0 → gw_Gv p l e gr_Trains_sortByProduct s m args below meth c D cA hs z r0 H locs ls 17 []) (u : gw_St) (t0 : Nat) (y1 : Int64) (x3 : Int32) (o_t0 : gw_ok z t0 1) {H : Heap} {locs : List Loc} {ls : Array Slot} (hW : gw_Wx D cA hs z s u H locs) (hl : lv_has ls 4 [(0, .ref (hs t0)), (1, .long y1), (3, .int x3)]) (h : gf_Trains_sortByProduct_S17 F z  rc_17 u t0 y1 x3 = some r0) : gw_Gv p l e gr_Trains_sortByProduct s m args below meth c D cA hs z r0 H locs ls 17 [] := by
  obtain ⟨hx, hb, hml, hown, hts, hK⟩ := id C
  unfold gf_Trains_sortByProduct_S17 at h
  refine lv_iload_n hx hb gd_Trains_sortByProduct_17 rfl (lv_at hl 2 rfl) ?_
  refine lv_bipush (v := 28) hx hb gd_Trains_sortByProduct_18 (by decide) ?_
  refine lv_icmp_ge (tgt := 45) hx hb gd_Trains_sortByProduct_20 (by decide) (fun c1 => ?_) (fun c1 => ?_)
  · have h := gf_t c1 h
    exact gx_Trains_sortByProduct_b45 F C hr hk  u   hW (lv_sub hl [] rfl) h
  · have h := gf_f c1 h
    refine lv_lload_n hx hb gd_Trains_sortByProduct_23 rfl (lv_at hl 1 rfl) ?_
    refine lv_iload_n hx hb gd_Trains_sortByProduct_24 rfl (lv_at hl 2 rfl) ?_
    refine lv_lshr hx hb gd_Trains_sortByProduct_25 rfl ?_
    refine lv_lconst (v := 0) hx hb gd_Trains_sortByProduct_26 (by decide) ?_
    refine W.lcmp hx hb gd_Trains_sortByProduct_27 ?_
    refine lv_if_le (tgt := 45) hx hb gd_Trains_sortByProduct_28 (by decide) (fun c2 => ?_) (fun c2 => ?_)
    · have h := gf_t c2 h
      exact gx_Trains_sortByProduct_b45 F C hr hk  u   hW (lv_sub hl [] rfl) h
    · have h := gf_f c2 h
      refine lv_aload_n hx hb gd_Trains_sortByProduct_31 rfl (lv_at hl 0 rfl) ?_
      refine lv_bipush (v := 28) hx hb gd_Trains_sortByProduct_32 (by decide) ?_
      refine lv_iload_n hx hb gd_Trains_sortByProduct_34 rfl (lv_at hl 2 rfl) ?_
      refine lv_iadd hx hb gd_Trains_sortByProduct_35 ?_
      obtain ⟨u3, d4, h⟩ := gf_bd_ok h
      refine gw_callVv (K := R_Trains) (As := [.int ((28 : Int32) + x3)]) (rest := []) C hW (fun _ h => Or.inr h) hl.1 gm_Trains_sortByDigit (gc_Trains_sortByDigit l F o_t0 d4 _) gk_160 gk_161 gk_162 o_t0 (by decide) rfl rfl rfl ⟨Nat.le_of_ble_eq_true rfl, Nat.le_of_ble_eq_true rfl⟩ ⟨Nat.zero_le _, Nat.zero_le _⟩ rfl rfl (Nat.le_of_ble_eq_true rfl) gd_Trains_sortByProduct_36 (fun H locs hW => ?_)
      obtain ⟨a5, e6⟩ : ∃ y : Int32, y = x3 + 11 := ⟨_, rfl⟩
      have h := gf_nm_ok e6 h
      refine lv_iinc (v := a5) (lv' := [(3, .int a5), (0, .ref (hs t0)), (1, .long y1)]) hx hb gd_Trains_sortByProduct_39 hl (k := 2) rfl (by rw [e6]; rfl) (by decide) rfl (fun ls hl => ?_)
      refine lv_goto (tgt := 17) hx hb gd_Trains_sortByProduct_42 (by decide) ?_
      exact k_17 u3 t0 y1 a5 _ _ _ o_t0 hW (lv_sub hl [1, 2, 0] rfl) h
set_option maxHeartbeats 4000000 in
set_option maxRecDepth 20000 in
theorem gx_Trains_sortByProduct_L17 {p : Program} {l : Launch} {e : Env} {s : State} {m : MethodId} {args : Array Value} {below : List Frame} {meth : Method} {c : Code} {D : va_G} {cA : Nat → ClassId} {hs : Nat → Nat} {z : gw_Sh} (F : Nat) {r0 : gw_St} (C : gw_Cx p s m args c gb_Trains_sortByProduct 4 R_Trains D cA) (hr : meth.sig.returnType = none) (hk : meth.locks = false) : ∀ (n : Nat), ∀ (u : gw_St) (t0 : Nat) (y1 : Int64) (x3 : Int32) (H : Heap) (locs : List Loc) (ls : Array Slot), gw_ok z t0 1 → gw_Wx D cA hs z s u H locs → lv_has ls 4 [(0, .ref (hs t0)), (1, .long y1), (3, .int x3)] → gf_Trains_sortByProduct_L17 F z  n u t0 y1 x3 = some r0 → gw_Gv p l e gr_Trains_sortByProduct s m args below meth c D cA hs z r0 H locs ls 17 [] := by
  intro n
  induction n with
  | zero =>
    intro u t0 y1 x3 H locs ls o_t0 hW hl h
    cases h
  | succ n ih =>
    intro u t0 y1 x3 H locs ls o_t0 hW hl h
    exact gx_Trains_sortByProduct_S17 F C hr hk  ih u t0 y1 x3 o_t0 hW hl h

set_option maxHeartbeats 4000000 in
set_option maxRecDepth 20000 in
theorem gx_Trains_sortByProduct_b0 {p : Program} {l : Launch} {e : Env} {s : State} {m : MethodId} {args : Array Value} {below : List Frame} {meth : Method} {c : Code} {D : va_G} {cA : Nat → ClassId} {hs : Nat → Nat} {z : gw_Sh} (F : Nat) {r0 : gw_St} (C : gw_Cx p s m args c gb_Trains_sortByProduct 4 R_Trains D cA) (hr : meth.sig.returnType = none) (hk : meth.locks = false) (u : gw_St) (t0 : Nat) (o_t0 : gw_ok z t0 1) {H : Heap} {locs : List Loc} {ls : Array Slot} (hW : gw_Wx D cA hs z s u H locs) (hl : lv_has ls 4 [(0, .ref (hs t0))]) (h : gf_Trains_sortByProduct_b0 F z   u t0 = some r0) : gw_Gv p l e gr_Trains_sortByProduct s m args below meth c D cA hs z r0 H locs ls 0 [] := by
  obtain ⟨hx, hb, hml, hown, hts, hK⟩ := id C
  unfold gf_Trains_sortByProduct_b0 at h
  refine lv_aload_n hx hb gd_Trains_sortByProduct_0 rfl (lv_at hl 0 rfl) ?_
  obtain ⟨q7, e8, h⟩ := gf_nn_ok h
  refine gw_getr (k := 0) (ty := 11) (ref := R_Trains) C hW o_t0 (by decide) rfl gi_Trains rfl (by decide) rfl rfl gk_146 gd_Trains_sortByProduct_1 e8 ?_
  have o_q7 := hW.ref (d := 11) o_t0 e8 rfl
  refine lv_aload_n hx hb gd_Trains_sortByProduct_4 rfl (lv_at hl 0 rfl) ?_
  refine gw_geti (k := 9) (ref := R_Trains) C hW o_t0 (by decide) rfl gi_Trains rfl (by decide) rfl rfl gk_135 gd_Trains_sortByProduct_5 ?_
  refine lv_iconst (v := 1) hx hb gd_Trains_sortByProduct_8 (by decide) ?_
  refine lv_isub hx hb gd_Trains_sortByProduct_9 ?_
  obtain ⟨g9, h⟩ := gf_if_ok h
  refine gw_lald C hW o_q7 g9 gd_Trains_sortByProduct_10 ?_
  obtain ⟨a12, u10, d11, h⟩ := gf_cl_ok h
  refine gw_callSl (As := [.long (u.2.1 q7 (((u.1 t0 9) - (1 : Int32))).toNatClampNeg)]) (rest := []) C hW (fun _ h => Or.inr h) hl.1 gm_Trains_product (gc_Trains_product l F  d11 _) gk_163 gk_164 rfl rfl ⟨Nat.le_of_ble_eq_true rfl, Nat.le_of_ble_eq_true rfl⟩ ⟨Nat.zero_le _, Nat.zero_le _⟩ rfl rfl (Nat.le_of_ble_eq_true rfl) gd_Trains_sortByProduct_11 (fun H locs hW => ?_)
  refine lv_lstore_n (lv' := [(1, .long a12), (0, .ref (hs t0))]) hx hb gd_Trains_sortByProduct_14 rfl hl (by decide) rfl (fun ls hl => ?_)
  refine lv_iconst (v := 0) hx hb gd_Trains_sortByProduct_15 (by decide) ?_
  refine lv_istore_n (lv' := [(3, .int 0), (1, .long a12), (0, .ref (hs t0))]) hx hb gd_Trains_sortByProduct_16 rfl hl (by decide) rfl (fun ls hl => ?_)
  exact gx_Trains_sortByProduct_L17 F C hr hk  F u10 t0 a12 0 _ _ _ o_t0 hW (lv_sub hl [2, 1, 0] rfl) h

set_option maxRecDepth 20000 in
theorem gc_Trains_sortByProduct (l : Launch) {D : va_G} {cA : Nat → ClassId} {hs : Nat → Nat} {z : gw_Sh} (F : Nat) {u : gw_St} {r0 : gw_St} {t0 : Nat} (o_t0 : gw_ok z t0 1) (h : gf_Trains_sortByProduct F z u t0 = some r0) (sz : Nat) : gw_Mv l gy_Trains_sortByProduct gb_Trains_sortByProduct 4 none gr_Trains_sortByProduct [.ref (hs t0)] D cA hs z u sz r0 := by
  refine gw_enter (by decide) (Nat.le_of_ble_eq_true rfl) ?_
  intro p e s m below meth c ls hsz C hW hr hk _ hl
  subst hsz
  exact gx_Trains_sortByProduct_b0 F C hr hk u t0 o_t0 hW (lv_sub hl [0] rfl) h
-- GearDesk$Trains.wheel(JI)I
def gy_Trains_wheel : MethodName := ⟨R_Trains, "wheel", "(JI)I"⟩
abbrev gb_Trains_wheel : ByteArray := prog_7_method_23_code
theorem gk_166 : Cond.code gy_Trains_wheel gb_Trains_wheel 4 (some .int) ∈ gt_T := gt_m4 (List.mem_of_getElem? (i := 104) rfl) rfl
def gr_Trains_wheel : Room := gw_rm 1 64
theorem gm_Trains_wheel : gw_Mth gy_Trains_wheel gb_Trains_wheel 4 (some .int) 2 := ⟨gk_166, gk_131, ⟨by decide +kernel, by decide +kernel⟩, by decide +kernel⟩
theorem gd_Trains_wheel_0 : decode gb_Trains_wheel 0 = .ok (.lload_n 1, 1) := by decide +kernel
theorem gd_Trains_wheel_1 : decode gb_Trains_wheel 1 = .ok (.bipush 7, 2) := by decide +kernel
theorem gd_Trains_wheel_3 : decode gb_Trains_wheel 3 = .ok (.aload_n 0, 1) := by decide +kernel
theorem gd_Trains_wheel_4 : decode gb_Trains_wheel 4 = .ok (.getfield 33, 3) := by decide +kernel
theorem gd_Trains_wheel_7 : decode gb_Trains_wheel 7 = .ok (.iconst 1, 1) := by decide +kernel
theorem gd_Trains_wheel_8 : decode gb_Trains_wheel 8 = .ok (.isub, 1) := by decide +kernel
theorem gd_Trains_wheel_9 : decode gb_Trains_wheel 9 = .ok (.iload_n 3, 1) := by decide +kernel
theorem gd_Trains_wheel_10 : decode gb_Trains_wheel 10 = .ok (.isub, 1) := by decide +kernel
theorem gd_Trains_wheel_11 : decode gb_Trains_wheel 11 = .ok (.imul, 1) := by decide +kernel
theorem gd_Trains_wheel_12 : decode gb_Trains_wheel 12 = .ok (.lshr, 1) := by decide +kernel
theorem gd_Trains_wheel_13 : decode gb_Trains_wheel 13 = .ok (.l2i, 1) := by decide +kernel
theorem gd_Trains_wheel_14 : decode gb_Trains_wheel 14 = .ok (.bipush 127, 2) := by decide +kernel
theorem gd_Trains_wheel_16 : decode gb_Trains_wheel 16 = .ok (.iand, 1) := by decide +kernel
theorem gd_Trains_wheel_17 : decode gb_Trains_wheel 17 = .ok (.ireturn, 1) := by decide +kernel
def gf_Trains_wheel_b0 (F : Nat) (z : gw_Sh)  (u : gw_St) (t0 : Nat) (y1 : Int64) (x3 : Int32) : Option (Int32 × gw_St) :=
  some (((((y1 >>> ((((7 : Int32) * (((u.1 t0 6) - (1 : Int32)) - x3))).toInt64 &&& 63))).toInt32) &&& (127 : Int32)), u)
def gf_Trains_wheel (F : Nat) (z : gw_Sh) (u : gw_St) (t0 : Nat) (y1 : Int64) (x3 : Int32) : Option (Int32 × gw_St) := gf_Trains_wheel_b0 F z  u t0 y1 x3
set_option maxHeartbeats 4000000 in
set_option maxRecDepth 20000 in
theorem gx_Trains_wheel_b0 {p : Program} {l : Launch} {e : Env} {s : State} {m : MethodId} {args : Array Value} {below : List Frame} {meth : Method} {c : Code} {D : va_G} {cA : Nat → ClassId} {hs : Nat → Nat} {z : gw_Sh} (F : Nat) {r0 : (Int32 × gw_St)} (C : gw_Cx p s m args c gb_Trains_wheel 4 R_Trains D cA) (hr : meth.sig.returnType = (some .int)) (hk : meth.locks = false) (u : gw_St) (t0 : Nat) (y1 : Int64) (x3 : Int32) (o_t0 : gw_ok z t0 1) {H : Heap} {locs : List Loc} {ls : Array Slot} (hW : gw_Wx D cA hs z s u H locs) (hl : lv_has ls 4 [(0, .ref (hs t0)), (1, .long y1), (3, .int x3)]) (h : gf_Trains_wheel_b0 F z   u t0 y1 x3 = some r0) : gw_Gi p l e gr_Trains_wheel s m args below meth c D cA hs z r0 H locs ls 0 [] := by
  obtain ⟨hx, hb, hml, hown, hts, hK⟩ := id C
  unfold gf_Trains_wheel_b0 at h
  refine lv_lload_n hx hb gd_Trains_wheel_0 rfl (lv_at hl 1 rfl) ?_
  refine lv_bipush (v := 7) hx hb gd_Trains_wheel_1 (by decide) ?_
  refine lv_aload_n hx hb gd_Trains_wheel_3 rfl (lv_at hl 0 rfl) ?_
  refine gw_geti (k := 6) (ref := R_Trains) C hW o_t0 (by decide) rfl gi_Trains rfl (by decide) rfl rfl gk_133 gd_Trains_wheel_4 ?_
  refine lv_iconst (v := 1) hx hb gd_Trains_wheel_7 (by decide) ?_
  refine lv_isub hx hb gd_Trains_wheel_8 ?_
  refine lv_iload_n hx hb gd_Trains_wheel_9 rfl (lv_at hl 2 rfl) ?_
  refine lv_isub hx hb gd_Trains_wheel_10 ?_
  refine lv_imul hx hb gd_Trains_wheel_11 ?_
  refine lv_lshr hx hb gd_Trains_wheel_12 rfl ?_
  refine lv_l2i hx hb gd_Trains_wheel_13 rfl ?_
  refine lv_bipush (v := 127) hx hb gd_Trains_wheel_14 (by decide) ?_
  refine lv_iand hx hb gd_Trains_wheel_16 ?_
  obtain rfl := Option.some.inj h
  exact gw_iret C hW hr hk gd_Trains_wheel_17

set_option maxRecDepth 20000 in
theorem gc_Trains_wheel (l : Launch) {D : va_G} {cA : Nat → ClassId} {hs : Nat → Nat} {z : gw_Sh} (F : Nat) {u : gw_St} {r0 : (Int32 × gw_St)} {t0 : Nat} {y1 : Int64} {x3 : Int32} (o_t0 : gw_ok z t0 1) (h : gf_Trains_wheel F z u t0 y1 x3 = some r0) (sz : Nat) : gw_Mi l gy_Trains_wheel gb_Trains_wheel 4 (some .int) gr_Trains_wheel [.ref (hs t0), .long y1, .int x3] D cA hs z u sz r0 := by
  refine gw_enter (by decide) (Nat.le_of_ble_eq_true rfl) ?_
  intro p e s m below meth c ls hsz C hW hr hk _ hl
  subst hsz
  exact gx_Trains_wheel_b0 F C hr hk u t0 y1 x3 o_t0 hW (lv_sub hl [0, 1, 2] rfl) h
-- GearDesk$Trains.teeth(J)I
theorem gk_167 : Cond.methodLink R_Trains 68 gy_Trains_wheel ∈ gt_T := gt_m4 (List.mem_of_getElem? (i := 101) rfl) rfl
theorem gk_168 : Cond.instanceMethod gy_Trains_wheel ∈ gt_T := gt_m4 (List.mem_of_getElem? (i := 103) rfl) rfl
theorem gk_169 : Cond.selects R_Trains gy_Trains_wheel gy_Trains_wheel ∈ gt_T := gt_p1 (List.mem_of_getElem? (i := 9) rfl) rfl
def gy_Trains_teeth : MethodName := ⟨R_Trains, "teeth", "(J)I"⟩
abbrev gb_Trains_teeth : ByteArray := prog_7_method_24_code
theorem gk_170 : Cond.code gy_Trains_teeth gb_Trains_teeth 5 (some .int) ∈ gt_T := gt_m4 (List.mem_of_getElem? (i := 100) rfl) rfl
def gr_Trains_teeth : Room := gw_rm 2 87
theorem gm_Trains_teeth : gw_Mth gy_Trains_teeth gb_Trains_teeth 5 (some .int) 1 := ⟨gk_170, gk_131, ⟨by decide +kernel, by decide +kernel⟩, by decide +kernel⟩
theorem gd_Trains_teeth_0 : decode gb_Trains_teeth 0 = .ok (.iconst 0, 1) := by decide +kernel
theorem gd_Trains_teeth_1 : decode gb_Trains_teeth 1 = .ok (.istore_n 3, 1) := by decide +kernel
theorem gd_Trains_teeth_2 : decode gb_Trains_teeth 2 = .ok (.iconst 0, 1) := by decide +kernel
theorem gd_Trains_teeth_3 : decode gb_Trains_teeth 3 = .ok (.istore 4, 2) := by decide +kernel
theorem gd_Trains_teeth_5 : decode gb_Trains_teeth 5 = .ok (.iload 4, 2) := by decide +kernel
theorem gd_Trains_teeth_7 : decode gb_Trains_teeth 7 = .ok (.aload_n 0, 1) := by decide +kernel
theorem gd_Trains_teeth_8 : decode gb_Trains_teeth 8 = .ok (.getfield 33, 3) := by decide +kernel
theorem gd_Trains_teeth_11 : decode gb_Trains_teeth 11 = .ok (.if_icmp .ge 19, 3) := by decide +kernel
theorem gd_Trains_teeth_14 : decode gb_Trains_teeth 14 = .ok (.iload_n 3, 1) := by decide +kernel
theorem gd_Trains_teeth_15 : decode gb_Trains_teeth 15 = .ok (.aload_n 0, 1) := by decide +kernel
theorem gd_Trains_teeth_16 : decode gb_Trains_teeth 16 = .ok (.lload_n 1, 1) := by decide +kernel
theorem gd_Trains_teeth_17 : decode gb_Trains_teeth 17 = .ok (.iload 4, 2) := by decide +kernel
theorem gd_Trains_teeth_19 : decode gb_Trains_teeth 19 = .ok (.invokevirtual 68, 3) := by decide +kernel
theorem gd_Trains_teeth_22 : decode gb_Trains_teeth 22 = .ok (.iadd, 1) := by decide +kernel
theorem gd_Trains_teeth_23 : decode gb_Trains_teeth 23 = .ok (.istore_n 3, 1) := by decide +kernel
theorem gd_Trains_teeth_24 : decode gb_Trains_teeth 24 = .ok (.iinc 4 1, 3) := by decide +kernel
theorem gd_Trains_teeth_27 : decode gb_Trains_teeth 27 = .ok (.goto (-22), 3) := by decide +kernel
theorem gd_Trains_teeth_30 : decode gb_Trains_teeth 30 = .ok (.iload_n 3, 1) := by decide +kernel
theorem gd_Trains_teeth_31 : decode gb_Trains_teeth 31 = .ok (.ireturn, 1) := by decide +kernel
def gf_Trains_teeth_S5 (F : Nat) (z : gw_Sh)  (rc_5 : gw_St → Nat → Int64 → Int32 → Int32 → Option (Int32 × gw_St)) (u : gw_St) (t0 : Nat) (y1 : Int64) (x3 : Int32) (x4 : Int32) : Option (Int32 × gw_St) :=
  if (u.1 t0 6) ≤ x4 then (some (x3, u)) else (gf_cl (gf_Trains_wheel F z u t0 y1 x4) fun a4 u2 => gf_nm (x3 + a4) fun a5 => gf_nm (x4 + 1) fun a7 => rc_5 u2 t0 y1 a5 a7)
def gf_Trains_teeth_L5 (F : Nat) (z : gw_Sh)  : Nat → gw_St → Nat → Int64 → Int32 → Int32 → Option (Int32 × gw_St)
  | 0 => fun _ _ _ _ _ => none
  | n + 1 => fun u t0 y1 x3 x4 => gf_Trains_teeth_S5 F z  (gf_Trains_teeth_L5 F z  n) u t0 y1 x3 x4
def gf_Trains_teeth_b0 (F : Nat) (z : gw_Sh)  (u : gw_St) (t0 : Nat) (y1 : Int64) : Option (Int32 × gw_St) :=
  gf_Trains_teeth_L5 F z  F u t0 y1 0 0
def gf_Trains_teeth (F : Nat) (z : gw_Sh) (u : gw_St) (t0 : Nat) (y1 : Int64) : Option (Int32 × gw_St) := gf_Trains_teeth_b0 F z  u t0 y1
set_option maxHeartbeats 4000000 in
set_option maxRecDepth 20000 in
theorem gx_Trains_teeth_S5 {p : Program} {l : Launch} {e : Env} {s : State} {m : MethodId} {args : Array Value} {below : List Frame} {meth : Method} {c : Code} {D : va_G} {cA : Nat → ClassId} {hs : Nat → Nat} {z : gw_Sh} (F : Nat) {r0 : (Int32 × gw_St)} (C : gw_Cx p s m args c gb_Trains_teeth 5 R_Trains D cA) (hr : meth.sig.returnType = (some .int)) (hk : meth.locks = false) {rc_5 : gw_St → Nat → Int64 → Int32 → Int32 → Option (Int32 × gw_St)} (k_5 : ∀ (u : gw_St) (t0 : Nat) (y1 : Int64) (x3 : Int32) (x4 : Int32) (H : Heap) (locs : List Loc) (ls : Array Slot), gw_ok z t0 1 → gw_Wx D cA hs z s u H locs → lv_has ls 5 [(0, .ref (hs t0)), (1, .long y1), (3, .int x3), (4, .int x4)] → rc_5 u t0 y1 x3 x4 = some r0 → gw_Gi p l e gr_Trains_teeth s m args below meth c D cA hs z r0 H locs ls 5 []) (u : gw_St) (t0 : Nat) (y1 : Int64) (x3 : Int32) (x4 : Int32) (o_t0 : gw_ok z t0 1) {H : Heap} {locs : List Loc} {ls : Array Slot} (hW : gw_Wx D cA hs z s u H locs) (hl : lv_has ls 5 [(0, .ref (hs t0)), (1, .long y1), (3, .int x3), (4, .int x4)]) (h : gf_Trains_teeth_S5 F z  rc_5 u t0 y1 x3 x4 = some r0) : gw_Gi p l e gr_Trains_teeth s m args below meth c D cA hs z r0 H locs ls 5 [] := by
  obtain ⟨hx, hb, hml, hown, hts, hK⟩ := id C
  unfold gf_Trains_teeth_S5 at h
  refine lv_iload hx hb gd_Trains_teeth_5 (lv_at hl 3 rfl) ?_
  refine lv_aload_n hx hb gd_Trains_teeth_7 rfl (lv_at hl 0 rfl) ?_
  refine gw_geti (k := 6) (ref := R_Trains) C hW o_t0 (by decide) rfl gi_Trains rfl (by decide) rfl rfl gk_133 gd_Trains_teeth_8 ?_
  refine lv_icmp_ge (tgt := 30) hx hb gd_Trains_teeth_11 (by decide) (fun c1 => ?_) (fun c1 => ?_)
  · have h := gf_t c1 h
    refine lv_iload_n hx hb gd_Trains_teeth_30 rfl (lv_at hl 2 rfl) ?_
    obtain rfl := Option.some.inj h
    exact gw_iret C hW hr hk gd_Trains_teeth_31
  · have h := gf_f c1 h
    refine lv_iload_n hx hb gd_Trains_teeth_14 rfl (lv_at hl 2 rfl) ?_
    refine lv_aload_n hx hb gd_Trains_teeth_15 rfl (lv_at hl 0 rfl) ?_
    refine lv_lload_n hx hb gd_Trains_teeth_16 rfl (lv_at hl 1 rfl) ?_
    refine lv_iload hx hb gd_Trains_teeth_17 (lv_at hl 3 rfl) ?_
    obtain ⟨a4, u2, d3, h⟩ := gf_cl_ok h
    refine gw_callVi (K := R_Trains) (As := [.long y1, .int x4]) (rest := [.int x3]) C hW (fun _ h => Or.inr h) hl.1 gm_Trains_wheel (gc_Trains_wheel l F o_t0 d3 _) gk_167 gk_168 gk_169 o_t0 (by decide) rfl rfl rfl ⟨Nat.le_of_ble_eq_true rfl, Nat.le_of_ble_eq_true rfl⟩ ⟨Nat.zero_le _, Nat.zero_le _⟩ rfl rfl (Nat.le_of_ble_eq_true rfl) gd_Trains_teeth_19 (fun H locs hW => ?_)
    refine lv_iadd hx hb gd_Trains_teeth_22 ?_
    refine lv_topi (fun a5 e6 => ?_)
    have h := gf_nm_ok e6 h
    refine lv_istore_n (lv' := [(3, .int a5), (0, .ref (hs t0)), (1, .long y1), (4, .int x4)]) hx hb gd_Trains_teeth_23 rfl hl (by decide) rfl (fun ls hl => ?_)
    obtain ⟨a7, e8⟩ : ∃ y : Int32, y = x4 + 1 := ⟨_, rfl⟩
    have h := gf_nm_ok e8 h
    refine lv_iinc (v := a7) (lv' := [(4, .int a7), (3, .int a5), (0, .ref (hs t0)), (1, .long y1)]) hx hb gd_Trains_teeth_24 hl (k := 3) rfl (by rw [e8]; rfl) (by decide) rfl (fun ls hl => ?_)
    refine lv_goto (tgt := 5) hx hb gd_Trains_teeth_27 (by decide) ?_
    exact k_5 u2 t0 y1 a5 a7 _ _ _ o_t0 hW (lv_sub hl [2, 3, 1, 0] rfl) h
set_option maxHeartbeats 4000000 in
set_option maxRecDepth 20000 in
theorem gx_Trains_teeth_L5 {p : Program} {l : Launch} {e : Env} {s : State} {m : MethodId} {args : Array Value} {below : List Frame} {meth : Method} {c : Code} {D : va_G} {cA : Nat → ClassId} {hs : Nat → Nat} {z : gw_Sh} (F : Nat) {r0 : (Int32 × gw_St)} (C : gw_Cx p s m args c gb_Trains_teeth 5 R_Trains D cA) (hr : meth.sig.returnType = (some .int)) (hk : meth.locks = false) : ∀ (n : Nat), ∀ (u : gw_St) (t0 : Nat) (y1 : Int64) (x3 : Int32) (x4 : Int32) (H : Heap) (locs : List Loc) (ls : Array Slot), gw_ok z t0 1 → gw_Wx D cA hs z s u H locs → lv_has ls 5 [(0, .ref (hs t0)), (1, .long y1), (3, .int x3), (4, .int x4)] → gf_Trains_teeth_L5 F z  n u t0 y1 x3 x4 = some r0 → gw_Gi p l e gr_Trains_teeth s m args below meth c D cA hs z r0 H locs ls 5 [] := by
  intro n
  induction n with
  | zero =>
    intro u t0 y1 x3 x4 H locs ls o_t0 hW hl h
    cases h
  | succ n ih =>
    intro u t0 y1 x3 x4 H locs ls o_t0 hW hl h
    exact gx_Trains_teeth_S5 F C hr hk  ih u t0 y1 x3 x4 o_t0 hW hl h

set_option maxHeartbeats 4000000 in
set_option maxRecDepth 20000 in
theorem gx_Trains_teeth_b0 {p : Program} {l : Launch} {e : Env} {s : State} {m : MethodId} {args : Array Value} {below : List Frame} {meth : Method} {c : Code} {D : va_G} {cA : Nat → ClassId} {hs : Nat → Nat} {z : gw_Sh} (F : Nat) {r0 : (Int32 × gw_St)} (C : gw_Cx p s m args c gb_Trains_teeth 5 R_Trains D cA) (hr : meth.sig.returnType = (some .int)) (hk : meth.locks = false) (u : gw_St) (t0 : Nat) (y1 : Int64) (o_t0 : gw_ok z t0 1) {H : Heap} {locs : List Loc} {ls : Array Slot} (hW : gw_Wx D cA hs z s u H locs) (hl : lv_has ls 5 [(0, .ref (hs t0)), (1, .long y1)]) (h : gf_Trains_teeth_b0 F z   u t0 y1 = some r0) : gw_Gi p l e gr_Trains_teeth s m args below meth c D cA hs z r0 H locs ls 0 [] := by
  obtain ⟨hx, hb, hml, hown, hts, hK⟩ := id C
  unfold gf_Trains_teeth_b0 at h
  refine lv_iconst (v := 0) hx hb gd_Trains_teeth_0 (by decide) ?_
  refine lv_istore_n (lv' := [(3, .int 0), (0, .ref (hs t0)), (1, .long y1)]) hx hb gd_Trains_teeth_1 rfl hl (by decide) rfl (fun ls hl => ?_)
  refine lv_iconst (v := 0) hx hb gd_Trains_teeth_2 (by decide) ?_
  refine lv_istore (lv' := [(4, .int 0), (3, .int 0), (0, .ref (hs t0)), (1, .long y1)]) hx hb gd_Trains_teeth_3 hl (by decide) rfl (fun ls hl => ?_)
  exact gx_Trains_teeth_L5 F C hr hk  F u t0 y1 0 0 _ _ _ o_t0 hW (lv_sub hl [2, 3, 1, 0] rfl) h

set_option maxRecDepth 20000 in
theorem gc_Trains_teeth (l : Launch) {D : va_G} {cA : Nat → ClassId} {hs : Nat → Nat} {z : gw_Sh} (F : Nat) {u : gw_St} {r0 : (Int32 × gw_St)} {t0 : Nat} {y1 : Int64} (o_t0 : gw_ok z t0 1) (h : gf_Trains_teeth F z u t0 y1 = some r0) (sz : Nat) : gw_Mi l gy_Trains_teeth gb_Trains_teeth 5 (some .int) gr_Trains_teeth [.ref (hs t0), .long y1] D cA hs z u sz r0 := by
  refine gw_enter (by decide) (Nat.le_of_ble_eq_true rfl) ?_
  intro p e s m below meth c ls hsz C hW hr hk _ hl
  subst hsz
  exact gx_Trains_teeth_b0 F C hr hk u t0 y1 o_t0 hW (lv_sub hl [0, 1] rfl) h
-- GearDesk$Trains.takeGroup()V
theorem gk_171 : Cond.fieldLink R_Trains 92 R_Trains "groupEnd" "I" ∈ gt_T := gt_m1 (List.mem_of_getElem? (i := 60) rfl) rfl
theorem gk_172 : Cond.methodLink R_Trains 120 gy_Trains_teeth ∈ gt_T := gt_m4 (List.mem_of_getElem? (i := 97) rfl) rfl
theorem gk_173 : Cond.instanceMethod gy_Trains_teeth ∈ gt_T := gt_m4 (List.mem_of_getElem? (i := 99) rfl) rfl
theorem gk_174 : Cond.selects R_Trains gy_Trains_teeth gy_Trains_teeth ∈ gt_T := gt_p1 (List.mem_of_getElem? (i := 8) rfl) rfl
theorem gk_175 : Cond.fieldLink R_Trains 117 R_Trains "above" "I" ∈ gt_T := gt_m1 (List.mem_of_getElem? (i := 59) rfl) rfl
def gy_Trains_takeGroup : MethodName := ⟨R_Trains, "takeGroup", "()V"⟩
abbrev gb_Trains_takeGroup : ByteArray := prog_7_method_14_code
theorem gk_176 : Cond.code gy_Trains_takeGroup gb_Trains_takeGroup 3 none ∈ gt_T := gt_m4 (List.mem_of_getElem? (i := 96) rfl) rfl
def gr_Trains_takeGroup : Room := gw_rm 3 111
theorem gm_Trains_takeGroup : gw_Mth gy_Trains_takeGroup gb_Trains_takeGroup 3 none 0 := ⟨gk_176, gk_131, ⟨by decide +kernel, by decide +kernel⟩, by decide +kernel⟩
theorem gd_Trains_takeGroup_0 : decode gb_Trains_takeGroup 0 = .ok (.aload_n 0, 1) := by decide +kernel
theorem gd_Trains_takeGroup_1 : decode gb_Trains_takeGroup 1 = .ok (.getfield 92, 3) := by decide +kernel
theorem gd_Trains_takeGroup_4 : decode gb_Trains_takeGroup 4 = .ok (.istore_n 1, 1) := by decide +kernel
theorem gd_Trains_takeGroup_5 : decode gb_Trains_takeGroup 5 = .ok (.aload_n 0, 1) := by decide +kernel
theorem gd_Trains_takeGroup_6 : decode gb_Trains_takeGroup 6 = .ok (.iload_n 1, 1) := by decide +kernel
theorem gd_Trains_takeGroup_7 : decode gb_Trains_takeGroup 7 = .ok (.aload_n 0, 1) := by decide +kernel
theorem gd_Trains_takeGroup_8 : decode gb_Trains_takeGroup 8 = .ok (.getfield 43, 3) := by decide +kernel
theorem gd_Trains_takeGroup_11 : decode gb_Trains_takeGroup 11 = .ok (.if_icmp .ge 7, 3) := by decide +kernel
theorem gd_Trains_takeGroup_14 : decode gb_Trains_takeGroup 14 = .ok (.iload_n 1, 1) := by decide +kernel
theorem gd_Trains_takeGroup_15 : decode gb_Trains_takeGroup 15 = .ok (.goto 4, 3) := by decide +kernel
theorem gd_Trains_takeGroup_18 : decode gb_Trains_takeGroup 18 = .ok (.iconst (-1), 1) := by decide +kernel
theorem gd_Trains_takeGroup_19 : decode gb_Trains_takeGroup 19 = .ok (.putfield 117, 3) := by decide +kernel
theorem gd_Trains_takeGroup_22 : decode gb_Trains_takeGroup 22 = .ok (.aload_n 0, 1) := by decide +kernel
theorem gd_Trains_takeGroup_23 : decode gb_Trains_takeGroup 23 = .ok (.getfield 117, 3) := by decide +kernel
theorem gd_Trains_takeGroup_26 : decode gb_Trains_takeGroup 26 = .ok (.iconst (-1), 1) := by decide +kernel
theorem gd_Trains_takeGroup_27 : decode gb_Trains_takeGroup 27 = .ok (.if_icmp .ne 4, 3) := by decide +kernel
theorem gd_Trains_takeGroup_30 : decode gb_Trains_takeGroup 30 = .ok (.return_, 1) := by decide +kernel
theorem gd_Trains_takeGroup_31 : decode gb_Trains_takeGroup 31 = .ok (.iload_n 1, 1) := by decide +kernel
theorem gd_Trains_takeGroup_32 : decode gb_Trains_takeGroup 32 = .ok (.iconst 1, 1) := by decide +kernel
theorem gd_Trains_takeGroup_33 : decode gb_Trains_takeGroup 33 = .ok (.iadd, 1) := by decide +kernel
theorem gd_Trains_takeGroup_34 : decode gb_Trains_takeGroup 34 = .ok (.istore_n 2, 1) := by decide +kernel
theorem gd_Trains_takeGroup_35 : decode gb_Trains_takeGroup 35 = .ok (.iload_n 2, 1) := by decide +kernel
theorem gd_Trains_takeGroup_36 : decode gb_Trains_takeGroup 36 = .ok (.aload_n 0, 1) := by decide +kernel
theorem gd_Trains_takeGroup_37 : decode gb_Trains_takeGroup 37 = .ok (.getfield 43, 3) := by decide +kernel
theorem gd_Trains_takeGroup_40 : decode gb_Trains_takeGroup 40 = .ok (.if_icmp .ge 62, 3) := by decide +kernel
theorem gd_Trains_takeGroup_43 : decode gb_Trains_takeGroup 43 = .ok (.aload_n 0, 1) := by decide +kernel
theorem gd_Trains_takeGroup_44 : decode gb_Trains_takeGroup 44 = .ok (.getfield 12, 3) := by decide +kernel
theorem gd_Trains_takeGroup_47 : decode gb_Trains_takeGroup 47 = .ok (.iload_n 2, 1) := by decide +kernel
theorem gd_Trains_takeGroup_48 : decode gb_Trains_takeGroup 48 = .ok (.laload, 1) := by decide +kernel
theorem gd_Trains_takeGroup_49 : decode gb_Trains_takeGroup 49 = .ok (.invokestatic 72, 3) := by decide +kernel
theorem gd_Trains_takeGroup_52 : decode gb_Trains_takeGroup 52 = .ok (.aload_n 0, 1) := by decide +kernel
theorem gd_Trains_takeGroup_53 : decode gb_Trains_takeGroup 53 = .ok (.getfield 12, 3) := by decide +kernel
theorem gd_Trains_takeGroup_56 : decode gb_Trains_takeGroup 56 = .ok (.iload_n 1, 1) := by decide +kernel
theorem gd_Trains_takeGroup_57 : decode gb_Trains_takeGroup 57 = .ok (.laload, 1) := by decide +kernel
theorem gd_Trains_takeGroup_58 : decode gb_Trains_takeGroup 58 = .ok (.invokestatic 72, 3) := by decide +kernel
theorem gd_Trains_takeGroup_61 : decode gb_Trains_takeGroup 61 = .ok (.lcmp, 1) := by decide +kernel
theorem gd_Trains_takeGroup_62 : decode gb_Trains_takeGroup 62 = .ok (.ifCond .ne 40, 3) := by decide +kernel
theorem gd_Trains_takeGroup_65 : decode gb_Trains_takeGroup 65 = .ok (.aload_n 0, 1) := by decide +kernel
theorem gd_Trains_takeGroup_66 : decode gb_Trains_takeGroup 66 = .ok (.aload_n 0, 1) := by decide +kernel
theorem gd_Trains_takeGroup_67 : decode gb_Trains_takeGroup 67 = .ok (.getfield 12, 3) := by decide +kernel
theorem gd_Trains_takeGroup_70 : decode gb_Trains_takeGroup 70 = .ok (.iload_n 2, 1) := by decide +kernel
theorem gd_Trains_takeGroup_71 : decode gb_Trains_takeGroup 71 = .ok (.laload, 1) := by decide +kernel
theorem gd_Trains_takeGroup_72 : decode gb_Trains_takeGroup 72 = .ok (.invokevirtual 120, 3) := by decide +kernel
theorem gd_Trains_takeGroup_75 : decode gb_Trains_takeGroup 75 = .ok (.aload_n 0, 1) := by decide +kernel
theorem gd_Trains_takeGroup_76 : decode gb_Trains_takeGroup 76 = .ok (.aload_n 0, 1) := by decide +kernel
theorem gd_Trains_takeGroup_77 : decode gb_Trains_takeGroup 77 = .ok (.getfield 12, 3) := by decide +kernel
theorem gd_Trains_takeGroup_80 : decode gb_Trains_takeGroup 80 = .ok (.aload_n 0, 1) := by decide +kernel
theorem gd_Trains_takeGroup_81 : decode gb_Trains_takeGroup 81 = .ok (.getfield 117, 3) := by decide +kernel
theorem gd_Trains_takeGroup_84 : decode gb_Trains_takeGroup 84 = .ok (.laload, 1) := by decide +kernel
theorem gd_Trains_takeGroup_85 : decode gb_Trains_takeGroup 85 = .ok (.invokevirtual 120, 3) := by decide +kernel
theorem gd_Trains_takeGroup_88 : decode gb_Trains_takeGroup 88 = .ok (.if_icmp .ge 8, 3) := by decide +kernel
theorem gd_Trains_takeGroup_91 : decode gb_Trains_takeGroup 91 = .ok (.aload_n 0, 1) := by decide +kernel
theorem gd_Trains_takeGroup_92 : decode gb_Trains_takeGroup 92 = .ok (.iload_n 2, 1) := by decide +kernel
theorem gd_Trains_takeGroup_93 : decode gb_Trains_takeGroup 93 = .ok (.putfield 117, 3) := by decide +kernel
theorem gd_Trains_takeGroup_96 : decode gb_Trains_takeGroup 96 = .ok (.iinc 2 1, 3) := by decide +kernel
theorem gd_Trains_takeGroup_99 : decode gb_Trains_takeGroup 99 = .ok (.goto (-64), 3) := by decide +kernel
theorem gd_Trains_takeGroup_102 : decode gb_Trains_takeGroup 102 = .ok (.aload_n 0, 1) := by decide +kernel
theorem gd_Trains_takeGroup_103 : decode gb_Trains_takeGroup 103 = .ok (.iload_n 2, 1) := by decide +kernel
theorem gd_Trains_takeGroup_104 : decode gb_Trains_takeGroup 104 = .ok (.putfield 92, 3) := by decide +kernel
theorem gd_Trains_takeGroup_107 : decode gb_Trains_takeGroup 107 = .ok (.return_, 1) := by decide +kernel
def gf_Trains_takeGroup_b102 (F : Nat) (z : gw_Sh)  (u : gw_St) (t0 : Nat) (x2 : Int32) : Option gw_St :=
  gf_nm (gw_wi u t0 13 x2) fun u1 => some u1
def gf_Trains_takeGroup_b96 (F : Nat) (z : gw_Sh) (rc_35 : gw_St → Nat → Int32 → Int32 → Option gw_St) (u : gw_St) (t0 : Nat) (x1 : Int32) (x2 : Int32) : Option gw_St :=
  gf_nm (x2 + 1) fun a3 => rc_35 u t0 x1 a3
def gf_Trains_takeGroup_S35 (F : Nat) (z : gw_Sh)  (rc_35 : gw_St → Nat → Int32 → Int32 → Option gw_St) (u : gw_St) (t0 : Nat) (x1 : Int32) (x2 : Int32) : Option gw_St :=
  if (u.1 t0 9) ≤ x2 then (gf_Trains_takeGroup_b102 F z  u t0 x2) else (gf_nn (u.2.2 t0 0) fun q6 => if (x2 < 0 ∨ z.2.2 q6 ≤ (x2).toNatClampNeg) then none else gf_cl (gf_Trains_product F z u (u.2.1 q6 (x2).toNatClampNeg)) fun a11 u9 => gf_nn (u9.2.2 t0 0) fun q12 => if (x1 < 0 ∨ z.2.2 q12 ≤ (x1).toNatClampNeg) then none else gf_cl (gf_Trains_product F z u9 (u9.2.1 q12 (x1).toNatClampNeg)) fun a17 u15 => if (lg_cmp a11 a17) = 0 then (gf_nn (u15.2.2 t0 0) fun q19 => if (x2 < 0 ∨ z.2.2 q19 ≤ (x2).toNatClampNeg) then none else gf_cl (gf_Trains_teeth F z u15 t0 (u15.2.1 q19 (x2).toNatClampNeg)) fun a24 u22 => gf_nn (u22.2.2 t0 0) fun q25 => if ((u22.1 t0 12) < 0 ∨ z.2.2 q25 ≤ ((u22.1 t0 12)).toNatClampNeg) then none else gf_cl (gf_Trains_teeth F z u22 t0 (u22.2.1 q25 ((u22.1 t0 12)).toNatClampNeg)) fun a30 u28 => if a30 ≤ a24 then (gf_Trains_takeGroup_b96 F z rc_35 u28 t0 x1 x2) else (gf_nm (gw_wi u28 t0 12 x2) fun u32 => gf_Trains_takeGroup_b96 F z rc_35 u32 t0 x1 x2)) else (gf_Trains_takeGroup_b102 F z  u15 t0 x2))
def gf_Trains_takeGroup_L35 (F : Nat) (z : gw_Sh)  : Nat → gw_St → Nat → Int32 → Int32 → Option gw_St
  | 0 => fun _ _ _ _ => none
  | n + 1 => fun u t0 x1 x2 => gf_Trains_takeGroup_S35 F z  (gf_Trains_takeGroup_L35 F z  n) u t0 x1 x2
def gf_Trains_takeGroup_b19 (F : Nat) (z : gw_Sh)  (u : gw_St) (t0 : Nat) (x1 : Int32) (st0 : Nat) (sx1 : Int32) : Option gw_St :=
  gf_nm (gw_wi u st0 12 sx1) fun u34 => if (u34.1 t0 12) = (-1 : Int32) then (some u34) else (gf_nm (x1 + (1 : Int32)) fun a37 => gf_Trains_takeGroup_L35 F z  F u34 t0 x1 a37)
def gf_Trains_takeGroup_b0 (F : Nat) (z : gw_Sh)  (u : gw_St) (t0 : Nat) : Option gw_St :=
  gf_nm (u.1 t0 13) fun a39 => if (u.1 t0 9) ≤ a39 then (gf_Trains_takeGroup_b19 F z  u t0 a39 t0 (-1)) else (gf_Trains_takeGroup_b19 F z  u t0 a39 t0 a39)
def gf_Trains_takeGroup (F : Nat) (z : gw_Sh) (u : gw_St) (t0 : Nat) : Option gw_St := gf_Trains_takeGroup_b0 F z  u t0
set_option maxHeartbeats 4000000 in
set_option maxRecDepth 20000 in
theorem gx_Trains_takeGroup_b102 {p : Program} {l : Launch} {e : Env} {s : State} {m : MethodId} {args : Array Value} {below : List Frame} {meth : Method} {c : Code} {D : va_G} {cA : Nat → ClassId} {hs : Nat → Nat} {z : gw_Sh} (F : Nat) {r0 : gw_St} (C : gw_Cx p s m args c gb_Trains_takeGroup 3 R_Trains D cA) (hr : meth.sig.returnType = none) (hk : meth.locks = false) (u : gw_St) (t0 : Nat) (x2 : Int32) (o_t0 : gw_ok z t0 1) {H : Heap} {locs : List Loc} {ls : Array Slot} (hW : gw_Wx D cA hs z s u H locs) (hl : lv_has ls 3 [(0, .ref (hs t0)), (2, .int x2)]) (h : gf_Trains_takeGroup_b102 F z   u t0 x2 = some r0) : gw_Gv p l e gr_Trains_takeGroup s m args below meth c D cA hs z r0 H locs ls 102 [] := by
  obtain ⟨hx, hb, hml, hown, hts, hK⟩ := id C
  unfold gf_Trains_takeGroup_b102 at h
  refine lv_aload_n hx hb gd_Trains_takeGroup_102 rfl (lv_at hl 0 rfl) ?_
  refine lv_iload_n hx hb gd_Trains_takeGroup_103 rfl (lv_at hl 1 rfl) ?_
  refine gw_puti (k := 13) (ref := R_Trains) (fty := .int) C hW o_t0 (by decide) rfl gi_Trains rfl (by decide) rfl rfl gk_171 tf_Trains tf_Trains_ok nm_Trains rfl rfl rfl rfl gd_Trains_takeGroup_104 (fun u1 H locs e2 hW => ?_)
  have h := gf_nm_ok e2 h
  obtain rfl := Option.some.inj h
  exact gw_vret C hW hr hk gd_Trains_takeGroup_107

set_option maxHeartbeats 4000000 in
set_option maxRecDepth 20000 in
theorem gx_Trains_takeGroup_b96 {p : Program} {l : Launch} {e : Env} {s : State} {m : MethodId} {args : Array Value} {below : List Frame} {meth : Method} {c : Code} {D : va_G} {cA : Nat → ClassId} {hs : Nat → Nat} {z : gw_Sh} (F : Nat) {r0 : gw_St} (C : gw_Cx p s m args c gb_Trains_takeGroup 3 R_Trains D cA) (hr : meth.sig.returnType = none) (hk : meth.locks = false) {rc_35 : gw_St → Nat → Int32 → Int32 → Option gw_St} (k_35 : ∀ (u : gw_St) (t0 : Nat) (x1 : Int32) (x2 : Int32) (H : Heap) (locs : List Loc) (ls : Array Slot), gw_ok z t0 1 → gw_Wx D cA hs z s u H locs → lv_has ls 3 [(0, .ref (hs t0)), (1, .int x1), (2, .int x2)] → rc_35 u t0 x1 x2 = some r0 → gw_Gv p l e gr_Trains_takeGroup s m args below meth c D cA hs z r0 H locs ls 35 []) (u : gw_St) (t0 : Nat) (x1 : Int32) (x2 : Int32) (o_t0 : gw_ok z t0 1) {H : Heap} {locs : List Loc} {ls : Array Slot} (hW : gw_Wx D cA hs z s u H locs) (hl : lv_has ls 3 [(0, .ref (hs t0)), (1, .int x1), (2, .int x2)]) (h : gf_Trains_takeGroup_b96 F z rc_35  u t0 x1 x2 = some r0) : gw_Gv p l e gr_Trains_takeGroup s m args below meth c D cA hs z r0 H locs ls 96 [] := by
  obtain ⟨hx, hb, hml, hown, hts, hK⟩ := id C
  unfold gf_Trains_takeGroup_b96 at h
  obtain ⟨a3, e4⟩ : ∃ y : Int32, y = x2 + 1 := ⟨_, rfl⟩
  have h := gf_nm_ok e4 h
  refine lv_iinc (v := a3) (lv' := [(2, .int a3), (0, .ref (hs t0)), (1, .int x1)]) hx hb gd_Trains_takeGroup_96 hl (k := 2) rfl (by rw [e4]; rfl) (by decide) rfl (fun ls hl => ?_)
  refine lv_goto (tgt := 35) hx hb gd_Trains_takeGroup_99 (by decide) ?_
  exact k_35 u t0 x1 a3 _ _ _ o_t0 hW (lv_sub hl [1, 2, 0] rfl) h

set_option maxHeartbeats 4000000 in
set_option maxRecDepth 20000 in
theorem gx_Trains_takeGroup_S35 {p : Program} {l : Launch} {e : Env} {s : State} {m : MethodId} {args : Array Value} {below : List Frame} {meth : Method} {c : Code} {D : va_G} {cA : Nat → ClassId} {hs : Nat → Nat} {z : gw_Sh} (F : Nat) {r0 : gw_St} (C : gw_Cx p s m args c gb_Trains_takeGroup 3 R_Trains D cA) (hr : meth.sig.returnType = none) (hk : meth.locks = false) {rc_35 : gw_St → Nat → Int32 → Int32 → Option gw_St} (k_35 : ∀ (u : gw_St) (t0 : Nat) (x1 : Int32) (x2 : Int32) (H : Heap) (locs : List Loc) (ls : Array Slot), gw_ok z t0 1 → gw_Wx D cA hs z s u H locs → lv_has ls 3 [(0, .ref (hs t0)), (1, .int x1), (2, .int x2)] → rc_35 u t0 x1 x2 = some r0 → gw_Gv p l e gr_Trains_takeGroup s m args below meth c D cA hs z r0 H locs ls 35 []) (u : gw_St) (t0 : Nat) (x1 : Int32) (x2 : Int32) (o_t0 : gw_ok z t0 1) {H : Heap} {locs : List Loc} {ls : Array Slot} (hW : gw_Wx D cA hs z s u H locs) (hl : lv_has ls 3 [(0, .ref (hs t0)), (1, .int x1), (2, .int x2)]) (h : gf_Trains_takeGroup_S35 F z  rc_35 u t0 x1 x2 = some r0) : gw_Gv p l e gr_Trains_takeGroup s m args below meth c D cA hs z r0 H locs ls 35 [] := by
  obtain ⟨hx, hb, hml, hown, hts, hK⟩ := id C
  unfold gf_Trains_takeGroup_S35 at h
  refine lv_iload_n hx hb gd_Trains_takeGroup_35 rfl (lv_at hl 2 rfl) ?_
  refine lv_aload_n hx hb gd_Trains_takeGroup_36 rfl (lv_at hl 0 rfl) ?_
  refine gw_geti (k := 9) (ref := R_Trains) C hW o_t0 (by decide) rfl gi_Trains rfl (by decide) rfl rfl gk_135 gd_Trains_takeGroup_37 ?_
  refine lv_icmp_ge (tgt := 102) hx hb gd_Trains_takeGroup_40 (by decide) (fun c5 => ?_) (fun c5 => ?_)
  · have h := gf_t c5 h
    exact gx_Trains_takeGroup_b102 F C hr hk  u t0 x2 o_t0 hW (lv_sub hl [0, 2] rfl) h
  · have h := gf_f c5 h
    refine lv_aload_n hx hb gd_Trains_takeGroup_43 rfl (lv_at hl 0 rfl) ?_
    obtain ⟨q6, e7, h⟩ := gf_nn_ok h
    refine gw_getr (k := 0) (ty := 11) (ref := R_Trains) C hW o_t0 (by decide) rfl gi_Trains rfl (by decide) rfl rfl gk_146 gd_Trains_takeGroup_44 e7 ?_
    have o_q6 := hW.ref (d := 11) o_t0 e7 rfl
    refine lv_iload_n hx hb gd_Trains_takeGroup_47 rfl (lv_at hl 2 rfl) ?_
    obtain ⟨g8, h⟩ := gf_if_ok h
    refine gw_lald C hW o_q6 g8 gd_Trains_takeGroup_48 ?_
    obtain ⟨a11, u9, d10, h⟩ := gf_cl_ok h
    refine gw_callSl (As := [.long (u.2.1 q6 (x2).toNatClampNeg)]) (rest := []) C hW (fun _ h => Or.inr h) hl.1 gm_Trains_product (gc_Trains_product l F  d10 _) gk_163 gk_164 rfl rfl ⟨Nat.le_of_ble_eq_true rfl, Nat.le_of_ble_eq_true rfl⟩ ⟨Nat.zero_le _, Nat.zero_le _⟩ rfl rfl (Nat.le_of_ble_eq_true rfl) gd_Trains_takeGroup_49 (fun H locs hW => ?_)
    refine lv_aload_n hx hb gd_Trains_takeGroup_52 rfl (lv_at hl 0 rfl) ?_
    obtain ⟨q12, e13, h⟩ := gf_nn_ok h
    refine gw_getr (k := 0) (ty := 11) (ref := R_Trains) C hW o_t0 (by decide) rfl gi_Trains rfl (by decide) rfl rfl gk_146 gd_Trains_takeGroup_53 e13 ?_
    have o_q12 := hW.ref (d := 11) o_t0 e13 rfl
    refine lv_iload_n hx hb gd_Trains_takeGroup_56 rfl (lv_at hl 1 rfl) ?_
    obtain ⟨g14, h⟩ := gf_if_ok h
    refine gw_lald C hW o_q12 g14 gd_Trains_takeGroup_57 ?_
    obtain ⟨a17, u15, d16, h⟩ := gf_cl_ok h
    refine gw_callSl (As := [.long (u9.2.1 q12 (x1).toNatClampNeg)]) (rest := [.long a11]) C hW (fun _ h => Or.inr h) hl.1 gm_Trains_product (gc_Trains_product l F  d16 _) gk_163 gk_164 rfl rfl ⟨Nat.le_of_ble_eq_true rfl, Nat.le_of_ble_eq_true rfl⟩ ⟨Nat.zero_le _, Nat.zero_le _⟩ rfl rfl (Nat.le_of_ble_eq_true rfl) gd_Trains_takeGroup_58 (fun H locs hW => ?_)
    refine W.lcmp hx hb gd_Trains_takeGroup_61 ?_
    refine lv_if_ne (tgt := 102) hx hb gd_Trains_takeGroup_62 (by decide) (fun c18 => ?_) (fun c18 => ?_)
    · have h := gf_f c18 h
      exact gx_Trains_takeGroup_b102 F C hr hk  u15 t0 x2 o_t0 hW (lv_sub hl [0, 2] rfl) h
    · have h := gf_t c18 h
      refine lv_aload_n hx hb gd_Trains_takeGroup_65 rfl (lv_at hl 0 rfl) ?_
      refine lv_aload_n hx hb gd_Trains_takeGroup_66 rfl (lv_at hl 0 rfl) ?_
      obtain ⟨q19, e20, h⟩ := gf_nn_ok h
      refine gw_getr (k := 0) (ty := 11) (ref := R_Trains) C hW o_t0 (by decide) rfl gi_Trains rfl (by decide) rfl rfl gk_146 gd_Trains_takeGroup_67 e20 ?_
      have o_q19 := hW.ref (d := 11) o_t0 e20 rfl
      refine lv_iload_n hx hb gd_Trains_takeGroup_70 rfl (lv_at hl 2 rfl) ?_
      obtain ⟨g21, h⟩ := gf_if_ok h
      refine gw_lald C hW o_q19 g21 gd_Trains_takeGroup_71 ?_
      obtain ⟨a24, u22, d23, h⟩ := gf_cl_ok h
      refine gw_callVi (K := R_Trains) (As := [.long (u15.2.1 q19 (x2).toNatClampNeg)]) (rest := []) C hW (fun _ h => Or.inr h) hl.1 gm_Trains_teeth (gc_Trains_teeth l F o_t0 d23 _) gk_172 gk_173 gk_174 o_t0 (by decide) rfl rfl rfl ⟨Nat.le_of_ble_eq_true rfl, Nat.le_of_ble_eq_true rfl⟩ ⟨Nat.zero_le _, Nat.zero_le _⟩ rfl rfl (Nat.le_of_ble_eq_true rfl) gd_Trains_takeGroup_72 (fun H locs hW => ?_)
      refine lv_aload_n hx hb gd_Trains_takeGroup_75 rfl (lv_at hl 0 rfl) ?_
      refine lv_aload_n hx hb gd_Trains_takeGroup_76 rfl (lv_at hl 0 rfl) ?_
      obtain ⟨q25, e26, h⟩ := gf_nn_ok h
      refine gw_getr (k := 0) (ty := 11) (ref := R_Trains) C hW o_t0 (by decide) rfl gi_Trains rfl (by decide) rfl rfl gk_146 gd_Trains_takeGroup_77 e26 ?_
      have o_q25 := hW.ref (d := 11) o_t0 e26 rfl
      refine lv_aload_n hx hb gd_Trains_takeGroup_80 rfl (lv_at hl 0 rfl) ?_
      refine gw_geti (k := 12) (ref := R_Trains) C hW o_t0 (by decide) rfl gi_Trains rfl (by decide) rfl rfl gk_175 gd_Trains_takeGroup_81 ?_
      obtain ⟨g27, h⟩ := gf_if_ok h
      refine gw_lald C hW o_q25 g27 gd_Trains_takeGroup_84 ?_
      obtain ⟨a30, u28, d29, h⟩ := gf_cl_ok h
      refine gw_callVi (K := R_Trains) (As := [.long (u22.2.1 q25 ((u22.1 t0 12)).toNatClampNeg)]) (rest := [.int a24]) C hW (fun _ h => Or.inr h) hl.1 gm_Trains_teeth (gc_Trains_teeth l F o_t0 d29 _) gk_172 gk_173 gk_174 o_t0 (by decide) rfl rfl rfl ⟨Nat.le_of_ble_eq_true rfl, Nat.le_of_ble_eq_true rfl⟩ ⟨Nat.zero_le _, Nat.zero_le _⟩ rfl rfl (Nat.le_of_ble_eq_true rfl) gd_Trains_takeGroup_85 (fun H locs hW => ?_)
      refine lv_icmp_ge (tgt := 96) hx hb gd_Trains_takeGroup_88 (by decide) (fun c31 => ?_) (fun c31 => ?_)
      · have h := gf_t c31 h
        exact gx_Trains_takeGroup_b96 F C hr hk k_35 u28 t0 x1 x2 o_t0 hW (lv_sub hl [0, 1, 2] rfl) h
      · have h := gf_f c31 h
        refine lv_aload_n hx hb gd_Trains_takeGroup_91 rfl (lv_at hl 0 rfl) ?_
        refine lv_iload_n hx hb gd_Trains_takeGroup_92 rfl (lv_at hl 2 rfl) ?_
        refine gw_puti (k := 12) (ref := R_Trains) (fty := .int) C hW o_t0 (by decide) rfl gi_Trains rfl (by decide) rfl rfl gk_175 tf_Trains tf_Trains_ok nm_Trains rfl rfl rfl rfl gd_Trains_takeGroup_93 (fun u32 H locs e33 hW => ?_)
        have h := gf_nm_ok e33 h
        exact gx_Trains_takeGroup_b96 F C hr hk k_35 u32 t0 x1 x2 o_t0 hW (lv_sub hl [0, 1, 2] rfl) h
set_option maxHeartbeats 4000000 in
set_option maxRecDepth 20000 in
theorem gx_Trains_takeGroup_L35 {p : Program} {l : Launch} {e : Env} {s : State} {m : MethodId} {args : Array Value} {below : List Frame} {meth : Method} {c : Code} {D : va_G} {cA : Nat → ClassId} {hs : Nat → Nat} {z : gw_Sh} (F : Nat) {r0 : gw_St} (C : gw_Cx p s m args c gb_Trains_takeGroup 3 R_Trains D cA) (hr : meth.sig.returnType = none) (hk : meth.locks = false) : ∀ (n : Nat), ∀ (u : gw_St) (t0 : Nat) (x1 : Int32) (x2 : Int32) (H : Heap) (locs : List Loc) (ls : Array Slot), gw_ok z t0 1 → gw_Wx D cA hs z s u H locs → lv_has ls 3 [(0, .ref (hs t0)), (1, .int x1), (2, .int x2)] → gf_Trains_takeGroup_L35 F z  n u t0 x1 x2 = some r0 → gw_Gv p l e gr_Trains_takeGroup s m args below meth c D cA hs z r0 H locs ls 35 [] := by
  intro n
  induction n with
  | zero =>
    intro u t0 x1 x2 H locs ls o_t0 hW hl h
    cases h
  | succ n ih =>
    intro u t0 x1 x2 H locs ls o_t0 hW hl h
    exact gx_Trains_takeGroup_S35 F C hr hk  ih u t0 x1 x2 o_t0 hW hl h

set_option maxHeartbeats 4000000 in
set_option maxRecDepth 20000 in
theorem gx_Trains_takeGroup_b19 {p : Program} {l : Launch} {e : Env} {s : State} {m : MethodId} {args : Array Value} {below : List Frame} {meth : Method} {c : Code} {D : va_G} {cA : Nat → ClassId} {hs : Nat → Nat} {z : gw_Sh} (F : Nat) {r0 : gw_St} (C : gw_Cx p s m args c gb_Trains_takeGroup 3 R_Trains D cA) (hr : meth.sig.returnType = none) (hk : meth.locks = false) (u : gw_St) (t0 : Nat) (x1 : Int32) (st0 : Nat) (sx1 : Int32) (o_t0 : gw_ok z t0 1) (o_st0 : gw_ok z st0 1) {H : Heap} {locs : List Loc} {ls : Array Slot} (hW : gw_Wx D cA hs z s u H locs) (hl : lv_has ls 3 [(0, .ref (hs t0)), (1, .int x1)]) (h : gf_Trains_takeGroup_b19 F z   u t0 x1 st0 sx1 = some r0) : gw_Gv p l e gr_Trains_takeGroup s m args below meth c D cA hs z r0 H locs ls 19 [.int sx1, .ref (hs st0)] := by
  obtain ⟨hx, hb, hml, hown, hts, hK⟩ := id C
  unfold gf_Trains_takeGroup_b19 at h
  refine gw_puti (k := 12) (ref := R_Trains) (fty := .int) C hW o_st0 (by decide) rfl gi_Trains rfl (by decide) rfl rfl gk_175 tf_Trains tf_Trains_ok nm_Trains rfl rfl rfl rfl gd_Trains_takeGroup_19 (fun u34 H locs e35 hW => ?_)
  have h := gf_nm_ok e35 h
  refine lv_aload_n hx hb gd_Trains_takeGroup_22 rfl (lv_at hl 0 rfl) ?_
  refine gw_geti (k := 12) (ref := R_Trains) C hW o_t0 (by decide) rfl gi_Trains rfl (by decide) rfl rfl gk_175 gd_Trains_takeGroup_23 ?_
  refine lv_iconst (v := (-1)) hx hb gd_Trains_takeGroup_26 (by decide) ?_
  refine lv_icmp_ne (tgt := 31) hx hb gd_Trains_takeGroup_27 (by decide) (fun c36 => ?_) (fun c36 => ?_)
  · have h := gf_f c36 h
    refine lv_iload_n hx hb gd_Trains_takeGroup_31 rfl (lv_at hl 1 rfl) ?_
    refine lv_iconst (v := 1) hx hb gd_Trains_takeGroup_32 (by decide) ?_
    refine lv_iadd hx hb gd_Trains_takeGroup_33 ?_
    refine lv_topi (fun a37 e38 => ?_)
    have h := gf_nm_ok e38 h
    refine lv_istore_n (lv' := [(2, .int a37), (0, .ref (hs t0)), (1, .int x1)]) hx hb gd_Trains_takeGroup_34 rfl hl (by decide) rfl (fun ls hl => ?_)
    exact gx_Trains_takeGroup_L35 F C hr hk  F u34 t0 x1 a37 _ _ _ o_t0 hW (lv_sub hl [1, 2, 0] rfl) h
  · have h := gf_t c36 h
    obtain rfl := Option.some.inj h
    exact gw_vret C hW hr hk gd_Trains_takeGroup_30

set_option maxHeartbeats 4000000 in
set_option maxRecDepth 20000 in
theorem gx_Trains_takeGroup_b0 {p : Program} {l : Launch} {e : Env} {s : State} {m : MethodId} {args : Array Value} {below : List Frame} {meth : Method} {c : Code} {D : va_G} {cA : Nat → ClassId} {hs : Nat → Nat} {z : gw_Sh} (F : Nat) {r0 : gw_St} (C : gw_Cx p s m args c gb_Trains_takeGroup 3 R_Trains D cA) (hr : meth.sig.returnType = none) (hk : meth.locks = false) (u : gw_St) (t0 : Nat) (o_t0 : gw_ok z t0 1) {H : Heap} {locs : List Loc} {ls : Array Slot} (hW : gw_Wx D cA hs z s u H locs) (hl : lv_has ls 3 [(0, .ref (hs t0))]) (h : gf_Trains_takeGroup_b0 F z   u t0 = some r0) : gw_Gv p l e gr_Trains_takeGroup s m args below meth c D cA hs z r0 H locs ls 0 [] := by
  obtain ⟨hx, hb, hml, hown, hts, hK⟩ := id C
  unfold gf_Trains_takeGroup_b0 at h
  refine lv_aload_n hx hb gd_Trains_takeGroup_0 rfl (lv_at hl 0 rfl) ?_
  refine gw_geti (k := 13) (ref := R_Trains) C hW o_t0 (by decide) rfl gi_Trains rfl (by decide) rfl rfl gk_171 gd_Trains_takeGroup_1 ?_
  refine lv_topi (fun a39 e40 => ?_)
  have h := gf_nm_ok e40 h
  refine lv_istore_n (lv' := [(1, .int a39), (0, .ref (hs t0))]) hx hb gd_Trains_takeGroup_4 rfl hl (by decide) rfl (fun ls hl => ?_)
  refine lv_aload_n hx hb gd_Trains_takeGroup_5 rfl (lv_at hl 1 rfl) ?_
  refine lv_iload_n hx hb gd_Trains_takeGroup_6 rfl (lv_at hl 0 rfl) ?_
  refine lv_aload_n hx hb gd_Trains_takeGroup_7 rfl (lv_at hl 1 rfl) ?_
  refine gw_geti (k := 9) (ref := R_Trains) C hW o_t0 (by decide) rfl gi_Trains rfl (by decide) rfl rfl gk_135 gd_Trains_takeGroup_8 ?_
  refine lv_icmp_ge (tgt := 18) hx hb gd_Trains_takeGroup_11 (by decide) (fun c41 => ?_) (fun c41 => ?_)
  · have h := gf_t c41 h
    refine lv_iconst (v := (-1)) hx hb gd_Trains_takeGroup_18 (by decide) ?_
    exact gx_Trains_takeGroup_b19 F C hr hk  u t0 a39 t0 (-1) o_t0 o_t0 hW (lv_sub hl [1, 0] rfl) h
  · have h := gf_f c41 h
    refine lv_iload_n hx hb gd_Trains_takeGroup_14 rfl (lv_at hl 0 rfl) ?_
    refine lv_goto (tgt := 19) hx hb gd_Trains_takeGroup_15 (by decide) ?_
    exact gx_Trains_takeGroup_b19 F C hr hk  u t0 a39 t0 a39 o_t0 o_t0 hW (lv_sub hl [1, 0] rfl) h

set_option maxRecDepth 20000 in
theorem gc_Trains_takeGroup (l : Launch) {D : va_G} {cA : Nat → ClassId} {hs : Nat → Nat} {z : gw_Sh} (F : Nat) {u : gw_St} {r0 : gw_St} {t0 : Nat} (o_t0 : gw_ok z t0 1) (h : gf_Trains_takeGroup F z u t0 = some r0) (sz : Nat) : gw_Mv l gy_Trains_takeGroup gb_Trains_takeGroup 3 none gr_Trains_takeGroup [.ref (hs t0)] D cA hs z u sz r0 := by
  refine gw_enter (by decide) (Nat.le_of_ble_eq_true rfl) ?_
  intro p e s m below meth c ls hsz C hW hr hk _ hl
  subst hsz
  exact gx_Trains_takeGroup_b0 F C hr hk u t0 o_t0 hW (lv_sub hl [0] rfl) h
-- GearDesk$Trains.prepare()V
theorem gk_177 : Cond.methodLink R_Trains 83 gy_Trains_listChoices ∈ gt_T := gt_m3 (List.mem_of_getElem? (i := 28) rfl) rfl
theorem gk_178 : Cond.instanceMethod gy_Trains_listChoices ∈ gt_T := gt_m3 (List.mem_of_getElem? (i := 30) rfl) rfl
theorem gk_179 : Cond.selects R_Trains gy_Trains_listChoices gy_Trains_listChoices ∈ gt_T := gt_p1 (List.mem_of_getElem? (i := 3) rfl) rfl
theorem gk_180 : Cond.methodLink R_Trains 86 gy_Trains_sortByProduct ∈ gt_T := gt_m4 (List.mem_of_getElem? (i := 79) rfl) rfl
theorem gk_181 : Cond.instanceMethod gy_Trains_sortByProduct ∈ gt_T := gt_m4 (List.mem_of_getElem? (i := 81) rfl) rfl
theorem gk_182 : Cond.selects R_Trains gy_Trains_sortByProduct gy_Trains_sortByProduct ∈ gt_T := gt_p1 (List.mem_of_getElem? (i := 5) rfl) rfl
theorem gk_183 : Cond.fieldLink R_Trains 65 R_Trains "bestDriven" "J" ∈ gt_T := gt_m1 (List.mem_of_getElem? (i := 62) rfl) rfl
theorem gk_184 : Cond.fieldLink R_Trains 89 R_Trains "below" "I" ∈ gt_T := gt_m1 (List.mem_of_getElem? (i := 58) rfl) rfl
theorem gk_185 : Cond.methodLink R_Trains 95 gy_Trains_takeGroup ∈ gt_T := gt_m4 (List.mem_of_getElem? (i := 93) rfl) rfl
theorem gk_186 : Cond.instanceMethod gy_Trains_takeGroup ∈ gt_T := gt_m4 (List.mem_of_getElem? (i := 95) rfl) rfl
theorem gk_187 : Cond.selects R_Trains gy_Trains_takeGroup gy_Trains_takeGroup ∈ gt_T := gt_p1 (List.mem_of_getElem? (i := 7) rfl) rfl
def gy_Trains_prepare : MethodName := ⟨R_Trains, "prepare", "()V"⟩
abbrev gb_Trains_prepare : ByteArray := prog_7_method_9_code
theorem gk_188 : Cond.code gy_Trains_prepare gb_Trains_prepare 1 none ∈ gt_T := gt_m3 (List.mem_of_getElem? (i := 27) rfl) rfl
def gr_Trains_prepare : Room := gw_rm 5 157
theorem gm_Trains_prepare : gw_Mth gy_Trains_prepare gb_Trains_prepare 1 none 0 := ⟨gk_188, gk_131, ⟨by decide +kernel, by decide +kernel⟩, by decide +kernel⟩
theorem gd_Trains_prepare_0 : decode gb_Trains_prepare 0 = .ok (.aload_n 0, 1) := by decide +kernel
theorem gd_Trains_prepare_1 : decode gb_Trains_prepare 1 = .ok (.invokevirtual 83, 3) := by decide +kernel
theorem gd_Trains_prepare_4 : decode gb_Trains_prepare 4 = .ok (.aload_n 0, 1) := by decide +kernel
theorem gd_Trains_prepare_5 : decode gb_Trains_prepare 5 = .ok (.invokevirtual 86, 3) := by decide +kernel
theorem gd_Trains_prepare_8 : decode gb_Trains_prepare 8 = .ok (.aload_n 0, 1) := by decide +kernel
theorem gd_Trains_prepare_9 : decode gb_Trains_prepare 9 = .ok (.lconst 0, 1) := by decide +kernel
theorem gd_Trains_prepare_10 : decode gb_Trains_prepare 10 = .ok (.putfield 65, 3) := by decide +kernel
theorem gd_Trains_prepare_13 : decode gb_Trains_prepare 13 = .ok (.aload_n 0, 1) := by decide +kernel
theorem gd_Trains_prepare_14 : decode gb_Trains_prepare 14 = .ok (.iconst (-1), 1) := by decide +kernel
theorem gd_Trains_prepare_15 : decode gb_Trains_prepare 15 = .ok (.putfield 89, 3) := by decide +kernel
theorem gd_Trains_prepare_18 : decode gb_Trains_prepare 18 = .ok (.aload_n 0, 1) := by decide +kernel
theorem gd_Trains_prepare_19 : decode gb_Trains_prepare 19 = .ok (.iconst 0, 1) := by decide +kernel
theorem gd_Trains_prepare_20 : decode gb_Trains_prepare 20 = .ok (.putfield 92, 3) := by decide +kernel
theorem gd_Trains_prepare_23 : decode gb_Trains_prepare 23 = .ok (.aload_n 0, 1) := by decide +kernel
theorem gd_Trains_prepare_24 : decode gb_Trains_prepare 24 = .ok (.invokevirtual 95, 3) := by decide +kernel
theorem gd_Trains_prepare_27 : decode gb_Trains_prepare 27 = .ok (.return_, 1) := by decide +kernel
def gf_Trains_prepare_b0 (F : Nat) (z : gw_Sh)  (u : gw_St) (t0 : Nat) : Option gw_St :=
  (gf_Trains_listChoices F z u t0).bind fun u1 => (gf_Trains_sortByProduct F z u1 t0).bind fun u3 => gf_nm (gw_wl u3 t0 15 (0 : Int64)) fun u5 => gf_nm (gw_wi u5 t0 11 (-1 : Int32)) fun u7 => gf_nm (gw_wi u7 t0 13 (0 : Int32)) fun u9 => (gf_Trains_takeGroup F z u9 t0).bind fun u11 => some u11
def gf_Trains_prepare (F : Nat) (z : gw_Sh) (u : gw_St) (t0 : Nat) : Option gw_St := gf_Trains_prepare_b0 F z  u t0
set_option maxHeartbeats 4000000 in
set_option maxRecDepth 20000 in
theorem gx_Trains_prepare_b0 {p : Program} {l : Launch} {e : Env} {s : State} {m : MethodId} {args : Array Value} {below : List Frame} {meth : Method} {c : Code} {D : va_G} {cA : Nat → ClassId} {hs : Nat → Nat} {z : gw_Sh} (F : Nat) {r0 : gw_St} (C : gw_Cx p s m args c gb_Trains_prepare 1 R_Trains D cA) (hr : meth.sig.returnType = none) (hk : meth.locks = false) (u : gw_St) (t0 : Nat) (o_t0 : gw_ok z t0 1) {H : Heap} {locs : List Loc} {ls : Array Slot} (hW : gw_Wx D cA hs z s u H locs) (hl : lv_has ls 1 [(0, .ref (hs t0))]) (h : gf_Trains_prepare_b0 F z   u t0 = some r0) : gw_Gv p l e gr_Trains_prepare s m args below meth c D cA hs z r0 H locs ls 0 [] := by
  obtain ⟨hx, hb, hml, hown, hts, hK⟩ := id C
  unfold gf_Trains_prepare_b0 at h
  refine lv_aload_n hx hb gd_Trains_prepare_0 rfl (lv_at hl 0 rfl) ?_
  obtain ⟨u1, d2, h⟩ := gf_bd_ok h
  refine gw_callVv (K := R_Trains) (As := []) (rest := []) C hW (fun _ h => Or.inr h) hl.1 gm_Trains_listChoices (gc_Trains_listChoices l F o_t0 d2 _) gk_177 gk_178 gk_179 o_t0 (by decide) rfl rfl rfl ⟨Nat.le_of_ble_eq_true rfl, Nat.le_of_ble_eq_true rfl⟩ ⟨Nat.zero_le _, Nat.zero_le _⟩ rfl rfl (Nat.le_of_ble_eq_true rfl) gd_Trains_prepare_1 (fun H locs hW => ?_)
  refine lv_aload_n hx hb gd_Trains_prepare_4 rfl (lv_at hl 0 rfl) ?_
  obtain ⟨u3, d4, h⟩ := gf_bd_ok h
  refine gw_callVv (K := R_Trains) (As := []) (rest := []) C hW (fun _ h => Or.inr h) hl.1 gm_Trains_sortByProduct (gc_Trains_sortByProduct l F o_t0 d4 _) gk_180 gk_181 gk_182 o_t0 (by decide) rfl rfl rfl ⟨Nat.le_of_ble_eq_true rfl, Nat.le_of_ble_eq_true rfl⟩ ⟨Nat.zero_le _, Nat.zero_le _⟩ rfl rfl (Nat.le_of_ble_eq_true rfl) gd_Trains_prepare_5 (fun H locs hW => ?_)
  refine lv_aload_n hx hb gd_Trains_prepare_8 rfl (lv_at hl 0 rfl) ?_
  refine lv_lconst (v := 0) hx hb gd_Trains_prepare_9 (by decide) ?_
  refine gw_putl (k := 15) (ref := R_Trains) C hW o_t0 (by decide) rfl gi_Trains rfl (by decide) rfl rfl gk_183 tf_Trains tf_Trains_ok nm_Trains rfl rfl gd_Trains_prepare_10 (fun u5 H locs e6 hW => ?_)
  have h := gf_nm_ok e6 h
  refine lv_aload_n hx hb gd_Trains_prepare_13 rfl (lv_at hl 0 rfl) ?_
  refine lv_iconst (v := (-1)) hx hb gd_Trains_prepare_14 (by decide) ?_
  refine gw_puti (k := 11) (ref := R_Trains) (fty := .int) C hW o_t0 (by decide) rfl gi_Trains rfl (by decide) rfl rfl gk_184 tf_Trains tf_Trains_ok nm_Trains rfl rfl rfl rfl gd_Trains_prepare_15 (fun u7 H locs e8 hW => ?_)
  have h := gf_nm_ok e8 h
  refine lv_aload_n hx hb gd_Trains_prepare_18 rfl (lv_at hl 0 rfl) ?_
  refine lv_iconst (v := 0) hx hb gd_Trains_prepare_19 (by decide) ?_
  refine gw_puti (k := 13) (ref := R_Trains) (fty := .int) C hW o_t0 (by decide) rfl gi_Trains rfl (by decide) rfl rfl gk_171 tf_Trains tf_Trains_ok nm_Trains rfl rfl rfl rfl gd_Trains_prepare_20 (fun u9 H locs e10 hW => ?_)
  have h := gf_nm_ok e10 h
  refine lv_aload_n hx hb gd_Trains_prepare_23 rfl (lv_at hl 0 rfl) ?_
  obtain ⟨u11, d12, h⟩ := gf_bd_ok h
  refine gw_callVv (K := R_Trains) (As := []) (rest := []) C hW (fun _ h => Or.inr h) hl.1 gm_Trains_takeGroup (gc_Trains_takeGroup l F o_t0 d12 _) gk_185 gk_186 gk_187 o_t0 (by decide) rfl rfl rfl ⟨Nat.le_of_ble_eq_true rfl, Nat.le_of_ble_eq_true rfl⟩ ⟨Nat.zero_le _, Nat.zero_le _⟩ rfl rfl (Nat.le_of_ble_eq_true rfl) gd_Trains_prepare_24 (fun H locs hW => ?_)
  obtain rfl := Option.some.inj h
  exact gw_vret C hW hr hk gd_Trains_prepare_27

set_option maxRecDepth 20000 in
theorem gc_Trains_prepare (l : Launch) {D : va_G} {cA : Nat → ClassId} {hs : Nat → Nat} {z : gw_Sh} (F : Nat) {u : gw_St} {r0 : gw_St} {t0 : Nat} (o_t0 : gw_ok z t0 1) (h : gf_Trains_prepare F z u t0 = some r0) (sz : Nat) : gw_Mv l gy_Trains_prepare gb_Trains_prepare 1 none gr_Trains_prepare [.ref (hs t0)] D cA hs z u sz r0 := by
  refine gw_enter (by decide) (Nat.le_of_ble_eq_true rfl) ?_
  intro p e s m below meth c ls hsz C hW hr hk _ hl
  subst hsz
  exact gx_Trains_prepare_b0 F C hr hk u t0 o_t0 hW (lv_sub hl [0] rfl) h
-- GearDesk$Trains.isBelow(IJ)Z
def gy_Trains_isBelow : MethodName := ⟨R_Trains, "isBelow", "(IJ)Z"⟩
abbrev gb_Trains_isBelow : ByteArray := prog_7_method_16_code
theorem gk_189 : Cond.code gy_Trains_isBelow gb_Trains_isBelow 4 (some .boolean) ∈ gt_T := gt_m4 (List.mem_of_getElem? (i := 113) rfl) rfl
def gr_Trains_isBelow : Room := gw_rm 2 85
theorem gm_Trains_isBelow : gw_Mth gy_Trains_isBelow gb_Trains_isBelow 4 (some .boolean) 2 := ⟨gk_189, gk_131, ⟨by decide +kernel, by decide +kernel⟩, by decide +kernel⟩
theorem gd_Trains_isBelow_0 : decode gb_Trains_isBelow 0 = .ok (.iload_n 1, 1) := by decide +kernel
theorem gd_Trains_isBelow_1 : decode gb_Trains_isBelow 1 = .ok (.iconst (-1), 1) := by decide +kernel
theorem gd_Trains_isBelow_2 : decode gb_Trains_isBelow 2 = .ok (.if_icmp .eq 26, 3) := by decide +kernel
theorem gd_Trains_isBelow_5 : decode gb_Trains_isBelow 5 = .ok (.aload_n 0, 1) := by decide +kernel
theorem gd_Trains_isBelow_6 : decode gb_Trains_isBelow 6 = .ok (.getfield 12, 3) := by decide +kernel
theorem gd_Trains_isBelow_9 : decode gb_Trains_isBelow 9 = .ok (.iload_n 1, 1) := by decide +kernel
theorem gd_Trains_isBelow_10 : decode gb_Trains_isBelow 10 = .ok (.laload, 1) := by decide +kernel
theorem gd_Trains_isBelow_11 : decode gb_Trains_isBelow 11 = .ok (.invokestatic 72, 3) := by decide +kernel
theorem gd_Trains_isBelow_14 : decode gb_Trains_isBelow 14 = .ok (.aload_n 0, 1) := by decide +kernel
theorem gd_Trains_isBelow_15 : decode gb_Trains_isBelow 15 = .ok (.getfield 26, 3) := by decide +kernel
theorem gd_Trains_isBelow_18 : decode gb_Trains_isBelow 18 = .ok (.lmul, 1) := by decide +kernel
theorem gd_Trains_isBelow_19 : decode gb_Trains_isBelow 19 = .ok (.lload_n 2, 1) := by decide +kernel
theorem gd_Trains_isBelow_20 : decode gb_Trains_isBelow 20 = .ok (.lcmp, 1) := by decide +kernel
theorem gd_Trains_isBelow_21 : decode gb_Trains_isBelow 21 = .ok (.ifCond .ge 7, 3) := by decide +kernel
theorem gd_Trains_isBelow_24 : decode gb_Trains_isBelow 24 = .ok (.iconst 1, 1) := by decide +kernel
theorem gd_Trains_isBelow_25 : decode gb_Trains_isBelow 25 = .ok (.goto 4, 3) := by decide +kernel
theorem gd_Trains_isBelow_28 : decode gb_Trains_isBelow 28 = .ok (.iconst 0, 1) := by decide +kernel
theorem gd_Trains_isBelow_29 : decode gb_Trains_isBelow 29 = .ok (.ireturn, 1) := by decide +kernel
def gf_Trains_isBelow_b29 (F : Nat) (z : gw_Sh)  (u : gw_St) (sx0 : Int32) : Option (Int32 × gw_St) :=
  if ¬ (sx0 &&& 1 = sx0) then none else some (sx0, u)
def gf_Trains_isBelow_b28 (F : Nat) (z : gw_Sh)  (u : gw_St)  : Option (Int32 × gw_St) :=
  gf_Trains_isBelow_b29 F z  u 0
def gf_Trains_isBelow_b0 (F : Nat) (z : gw_Sh)  (u : gw_St) (t0 : Nat) (x1 : Int32) (y2 : Int64) : Option (Int32 × gw_St) :=
  if x1 = (-1 : Int32) then (gf_Trains_isBelow_b28 F z  u ) else (gf_nn (u.2.2 t0 0) fun q3 => if (x1 < 0 ∨ z.2.2 q3 ≤ (x1).toNatClampNeg) then none else gf_cl (gf_Trains_product F z u (u.2.1 q3 (x1).toNatClampNeg)) fun a8 u6 => if 0 ≤ (lg_cmp (a8 * (u6.2.1 t0 4)) y2) then (gf_Trains_isBelow_b28 F z  u6 ) else (gf_Trains_isBelow_b29 F z  u6 1))
def gf_Trains_isBelow (F : Nat) (z : gw_Sh) (u : gw_St) (t0 : Nat) (x1 : Int32) (y2 : Int64) : Option (Int32 × gw_St) := gf_Trains_isBelow_b0 F z  u t0 x1 y2
set_option maxHeartbeats 4000000 in
set_option maxRecDepth 20000 in
theorem gx_Trains_isBelow_b29 {p : Program} {l : Launch} {e : Env} {s : State} {m : MethodId} {args : Array Value} {below : List Frame} {meth : Method} {c : Code} {D : va_G} {cA : Nat → ClassId} {hs : Nat → Nat} {z : gw_Sh} (F : Nat) {r0 : (Int32 × gw_St)} (C : gw_Cx p s m args c gb_Trains_isBelow 4 R_Trains D cA) (hr : meth.sig.returnType = (some .boolean)) (hk : meth.locks = false) (u : gw_St) (sx0 : Int32)  {H : Heap} {locs : List Loc} {ls : Array Slot} (hW : gw_Wx D cA hs z s u H locs) (hl : lv_has ls 4 []) (h : gf_Trains_isBelow_b29 F z   u sx0 = some r0) : gw_Gi p l e gr_Trains_isBelow s m args below meth c D cA hs z r0 H locs ls 29 [.int sx0] := by
  obtain ⟨hx, hb, hml, hown, hts, hK⟩ := id C
  unfold gf_Trains_isBelow_b29 at h
  obtain ⟨g1, h⟩ := gf_if_ok h
  obtain rfl := Option.some.inj h
  exact gw_zret C hW hr (Decidable.not_not.mp g1) hk gd_Trains_isBelow_29

set_option maxHeartbeats 4000000 in
set_option maxRecDepth 20000 in
theorem gx_Trains_isBelow_b28 {p : Program} {l : Launch} {e : Env} {s : State} {m : MethodId} {args : Array Value} {below : List Frame} {meth : Method} {c : Code} {D : va_G} {cA : Nat → ClassId} {hs : Nat → Nat} {z : gw_Sh} (F : Nat) {r0 : (Int32 × gw_St)} (C : gw_Cx p s m args c gb_Trains_isBelow 4 R_Trains D cA) (hr : meth.sig.returnType = (some .boolean)) (hk : meth.locks = false) (u : gw_St)   {H : Heap} {locs : List Loc} {ls : Array Slot} (hW : gw_Wx D cA hs z s u H locs) (hl : lv_has ls 4 []) (h : gf_Trains_isBelow_b28 F z   u  = some r0) : gw_Gi p l e gr_Trains_isBelow s m args below meth c D cA hs z r0 H locs ls 28 [] := by
  obtain ⟨hx, hb, hml, hown, hts, hK⟩ := id C
  unfold gf_Trains_isBelow_b28 at h
  refine lv_iconst (v := 0) hx hb gd_Trains_isBelow_28 (by decide) ?_
  exact gx_Trains_isBelow_b29 F C hr hk  u 0  hW (lv_sub hl [] rfl) h

set_option maxHeartbeats 4000000 in
set_option maxRecDepth 20000 in
theorem gx_Trains_isBelow_b0 {p : Program} {l : Launch} {e : Env} {s : State} {m : MethodId} {args : Array Value} {below : List Frame} {meth : Method} {c : Code} {D : va_G} {cA : Nat → ClassId} {hs : Nat → Nat} {z : gw_Sh} (F : Nat) {r0 : (Int32 × gw_St)} (C : gw_Cx p s m args c gb_Trains_isBelow 4 R_Trains D cA) (hr : meth.sig.returnType = (some .boolean)) (hk : meth.locks = false) (u : gw_St) (t0 : Nat) (x1 : Int32) (y2 : Int64) (o_t0 : gw_ok z t0 1) {H : Heap} {locs : List Loc} {ls : Array Slot} (hW : gw_Wx D cA hs z s u H locs) (hl : lv_has ls 4 [(0, .ref (hs t0)), (1, .int x1), (2, .long y2)]) (h : gf_Trains_isBelow_b0 F z   u t0 x1 y2 = some r0) : gw_Gi p l e gr_Trains_isBelow s m args below meth c D cA hs z r0 H locs ls 0 [] := by
  obtain ⟨hx, hb, hml, hown, hts, hK⟩ := id C
  unfold gf_Trains_isBelow_b0 at h
  refine lv_iload_n hx hb gd_Trains_isBelow_0 rfl (lv_at hl 1 rfl) ?_
  refine lv_iconst (v := (-1)) hx hb gd_Trains_isBelow_1 (by decide) ?_
  refine lv_icmp_eq (tgt := 28) hx hb gd_Trains_isBelow_2 (by decide) (fun c2 => ?_) (fun c2 => ?_)
  · have h := gf_t c2 h
    exact gx_Trains_isBelow_b28 F C hr hk  u   hW (lv_sub hl [] rfl) h
  · have h := gf_f c2 h
    refine lv_aload_n hx hb gd_Trains_isBelow_5 rfl (lv_at hl 0 rfl) ?_
    obtain ⟨q3, e4, h⟩ := gf_nn_ok h
    refine gw_getr (k := 0) (ty := 11) (ref := R_Trains) C hW o_t0 (by decide) rfl gi_Trains rfl (by decide) rfl rfl gk_146 gd_Trains_isBelow_6 e4 ?_
    have o_q3 := hW.ref (d := 11) o_t0 e4 rfl
    refine lv_iload_n hx hb gd_Trains_isBelow_9 rfl (lv_at hl 1 rfl) ?_
    obtain ⟨g5, h⟩ := gf_if_ok h
    refine gw_lald C hW o_q3 g5 gd_Trains_isBelow_10 ?_
    obtain ⟨a8, u6, d7, h⟩ := gf_cl_ok h
    refine gw_callSl (As := [.long (u.2.1 q3 (x1).toNatClampNeg)]) (rest := []) C hW (fun _ h => Or.inr h) hl.1 gm_Trains_product (gc_Trains_product l F  d7 _) gk_163 gk_164 rfl rfl ⟨Nat.le_of_ble_eq_true rfl, Nat.le_of_ble_eq_true rfl⟩ ⟨Nat.zero_le _, Nat.zero_le _⟩ rfl rfl (Nat.le_of_ble_eq_true rfl) gd_Trains_isBelow_11 (fun H locs hW => ?_)
    refine lv_aload_n hx hb gd_Trains_isBelow_14 rfl (lv_at hl 0 rfl) ?_
    refine gw_getl (k := 4) (ref := R_Trains) C hW o_t0 (by decide) rfl gi_Trains rfl (by decide) rfl rfl gk_138 gd_Trains_isBelow_15 ?_
    refine lv_lmul hx hb gd_Trains_isBelow_18 ?_
    refine lv_lload_n hx hb gd_Trains_isBelow_19 rfl (lv_at hl 2 rfl) ?_
    refine W.lcmp hx hb gd_Trains_isBelow_20 ?_
    refine lv_if_ge (tgt := 28) hx hb gd_Trains_isBelow_21 (by decide) (fun c9 => ?_) (fun c9 => ?_)
    · have h := gf_t c9 h
      exact gx_Trains_isBelow_b28 F C hr hk  u6   hW (lv_sub hl [] rfl) h
    · have h := gf_f c9 h
      refine lv_iconst (v := 1) hx hb gd_Trains_isBelow_24 (by decide) ?_
      refine lv_goto (tgt := 29) hx hb gd_Trains_isBelow_25 (by decide) ?_
      exact gx_Trains_isBelow_b29 F C hr hk  u6 1  hW (lv_sub hl [] rfl) h

set_option maxRecDepth 20000 in
theorem gc_Trains_isBelow (l : Launch) {D : va_G} {cA : Nat → ClassId} {hs : Nat → Nat} {z : gw_Sh} (F : Nat) {u : gw_St} {r0 : (Int32 × gw_St)} {t0 : Nat} {x1 : Int32} {y2 : Int64} (o_t0 : gw_ok z t0 1) (h : gf_Trains_isBelow F z u t0 x1 y2 = some r0) (sz : Nat) : gw_Mi l gy_Trains_isBelow gb_Trains_isBelow 4 (some .boolean) gr_Trains_isBelow [.ref (hs t0), .int x1, .long y2] D cA hs z u sz r0 := by
  refine gw_enter (by decide) (Nat.le_of_ble_eq_true rfl) ?_
  intro p e s m below meth c ls hsz C hW hr hk _ hl
  subst hsz
  exact gx_Trains_isBelow_b0 F C hr hk u t0 x1 y2 o_t0 hW (lv_sub hl [0, 1, 2] rfl) h
-- GearDesk$Trains.compareRatios(JJJJ)I
theorem gk_190 : Cond.methodLink R_Trains 143 gy_Long_compare ∈ gt_T := gt_m4 (List.mem_of_getElem? (i := 126) rfl) rfl
theorem gk_191 : Cond.static gy_Long_compare ∈ gt_T := gt_m4 (List.mem_of_getElem? (i := 127) rfl) rfl
def gy_Trains_compareRatios : MethodName := ⟨R_Trains, "compareRatios", "(JJJJ)I"⟩
abbrev gb_Trains_compareRatios : ByteArray := prog_7_method_19_code
theorem gk_192 : Cond.code gy_Trains_compareRatios gb_Trains_compareRatios 9 (some .int) ∈ gt_T := gt_m4 (List.mem_of_getElem? (i := 125) rfl) rfl
def gr_Trains_compareRatios : Room := gw_rm 2 87
theorem gm_Trains_compareRatios : gw_Mth gy_Trains_compareRatios gb_Trains_compareRatios 9 (some .int) 4 := ⟨gk_192, gk_131, ⟨by decide +kernel, by decide +kernel⟩, by decide +kernel⟩
theorem gd_Trains_compareRatios_0 : decode gb_Trains_compareRatios 0 = .ok (.lload_n 0, 1) := by decide +kernel
theorem gd_Trains_compareRatios_1 : decode gb_Trains_compareRatios 1 = .ok (.lload_n 2, 1) := by decide +kernel
theorem gd_Trains_compareRatios_2 : decode gb_Trains_compareRatios 2 = .ok (.ldiv, 1) := by decide +kernel
theorem gd_Trains_compareRatios_3 : decode gb_Trains_compareRatios 3 = .ok (.lload 4, 2) := by decide +kernel
theorem gd_Trains_compareRatios_5 : decode gb_Trains_compareRatios 5 = .ok (.lload 6, 2) := by decide +kernel
theorem gd_Trains_compareRatios_7 : decode gb_Trains_compareRatios 7 = .ok (.ldiv, 1) := by decide +kernel
theorem gd_Trains_compareRatios_8 : decode gb_Trains_compareRatios 8 = .ok (.invokestatic 143, 3) := by decide +kernel
theorem gd_Trains_compareRatios_11 : decode gb_Trains_compareRatios 11 = .ok (.istore 8, 2) := by decide +kernel
theorem gd_Trains_compareRatios_13 : decode gb_Trains_compareRatios 13 = .ok (.iload 8, 2) := by decide +kernel
theorem gd_Trains_compareRatios_15 : decode gb_Trains_compareRatios 15 = .ok (.ifCond .eq 8, 3) := by decide +kernel
theorem gd_Trains_compareRatios_18 : decode gb_Trains_compareRatios 18 = .ok (.iload 8, 2) := by decide +kernel
theorem gd_Trains_compareRatios_20 : decode gb_Trains_compareRatios 20 = .ok (.goto 19, 3) := by decide +kernel
theorem gd_Trains_compareRatios_23 : decode gb_Trains_compareRatios 23 = .ok (.lload_n 0, 1) := by decide +kernel
theorem gd_Trains_compareRatios_24 : decode gb_Trains_compareRatios 24 = .ok (.lload_n 2, 1) := by decide +kernel
theorem gd_Trains_compareRatios_25 : decode gb_Trains_compareRatios 25 = .ok (.lrem, 1) := by decide +kernel
theorem gd_Trains_compareRatios_26 : decode gb_Trains_compareRatios 26 = .ok (.lload 6, 2) := by decide +kernel
theorem gd_Trains_compareRatios_28 : decode gb_Trains_compareRatios 28 = .ok (.lmul, 1) := by decide +kernel
theorem gd_Trains_compareRatios_29 : decode gb_Trains_compareRatios 29 = .ok (.lload 4, 2) := by decide +kernel
theorem gd_Trains_compareRatios_31 : decode gb_Trains_compareRatios 31 = .ok (.lload 6, 2) := by decide +kernel
theorem gd_Trains_compareRatios_33 : decode gb_Trains_compareRatios 33 = .ok (.lrem, 1) := by decide +kernel
theorem gd_Trains_compareRatios_34 : decode gb_Trains_compareRatios 34 = .ok (.lload_n 2, 1) := by decide +kernel
theorem gd_Trains_compareRatios_35 : decode gb_Trains_compareRatios 35 = .ok (.lmul, 1) := by decide +kernel
theorem gd_Trains_compareRatios_36 : decode gb_Trains_compareRatios 36 = .ok (.invokestatic 143, 3) := by decide +kernel
theorem gd_Trains_compareRatios_39 : decode gb_Trains_compareRatios 39 = .ok (.ireturn, 1) := by decide +kernel
def gf_Trains_compareRatios_b39 (F : Nat) (z : gw_Sh)  (u : gw_St) (sx0 : Int32) : Option (Int32 × gw_St) :=
  some (sx0, u)
def gf_Trains_compareRatios_b0 (F : Nat) (z : gw_Sh)  (u : gw_St) (y0 : Int64) (y2 : Int64) (y4 : Int64) (y6 : Int64) : Option (Int32 × gw_St) :=
  if y2 = 0 then none else if y6 = 0 then none else gf_cl (gf_Long_compare F z u (y0 / y2) (y4 / y6)) fun a5 u3 => if a5 = 0 then (if y2 = 0 then none else if y6 = 0 then none else gf_cl (gf_Long_compare F z u3 ((y0 - y0 / y2 * y2) * y6) ((y4 - y4 / y6 * y6) * y2)) fun a11 u9 => gf_Trains_compareRatios_b39 F z  u9 a11) else (gf_Trains_compareRatios_b39 F z  u3 a5)
def gf_Trains_compareRatios (F : Nat) (z : gw_Sh) (u : gw_St) (y0 : Int64) (y2 : Int64) (y4 : Int64) (y6 : Int64) : Option (Int32 × gw_St) := gf_Trains_compareRatios_b0 F z  u y0 y2 y4 y6
set_option maxHeartbeats 4000000 in
set_option maxRecDepth 20000 in
theorem gx_Trains_compareRatios_b39 {p : Program} {l : Launch} {e : Env} {s : State} {m : MethodId} {args : Array Value} {below : List Frame} {meth : Method} {c : Code} {D : va_G} {cA : Nat → ClassId} {hs : Nat → Nat} {z : gw_Sh} (F : Nat) {r0 : (Int32 × gw_St)} (C : gw_Cx p s m args c gb_Trains_compareRatios 9 R_Trains D cA) (hr : meth.sig.returnType = (some .int)) (hk : meth.locks = false) (u : gw_St) (sx0 : Int32)  {H : Heap} {locs : List Loc} {ls : Array Slot} (hW : gw_Wx D cA hs z s u H locs) (hl : lv_has ls 9 []) (h : gf_Trains_compareRatios_b39 F z   u sx0 = some r0) : gw_Gi p l e gr_Trains_compareRatios s m args below meth c D cA hs z r0 H locs ls 39 [.int sx0] := by
  obtain ⟨hx, hb, hml, hown, hts, hK⟩ := id C
  unfold gf_Trains_compareRatios_b39 at h
  obtain rfl := Option.some.inj h
  exact gw_iret C hW hr hk gd_Trains_compareRatios_39

set_option maxHeartbeats 4000000 in
set_option maxRecDepth 20000 in
theorem gx_Trains_compareRatios_b0 {p : Program} {l : Launch} {e : Env} {s : State} {m : MethodId} {args : Array Value} {below : List Frame} {meth : Method} {c : Code} {D : va_G} {cA : Nat → ClassId} {hs : Nat → Nat} {z : gw_Sh} (F : Nat) {r0 : (Int32 × gw_St)} (C : gw_Cx p s m args c gb_Trains_compareRatios 9 R_Trains D cA) (hr : meth.sig.returnType = (some .int)) (hk : meth.locks = false) (u : gw_St) (y0 : Int64) (y2 : Int64) (y4 : Int64) (y6 : Int64)  {H : Heap} {locs : List Loc} {ls : Array Slot} (hW : gw_Wx D cA hs z s u H locs) (hl : lv_has ls 9 [(0, .long y0), (2, .long y2), (4, .long y4), (6, .long y6)]) (h : gf_Trains_compareRatios_b0 F z   u y0 y2 y4 y6 = some r0) : gw_Gi p l e gr_Trains_compareRatios s m args below meth c D cA hs z r0 H locs ls 0 [] := by
  obtain ⟨hx, hb, hml, hown, hts, hK⟩ := id C
  unfold gf_Trains_compareRatios_b0 at h
  refine lv_lload_n hx hb gd_Trains_compareRatios_0 rfl (lv_at hl 0 rfl) ?_
  refine lv_lload_n hx hb gd_Trains_compareRatios_1 rfl (lv_at hl 1 rfl) ?_
  obtain ⟨g1, h⟩ := gf_if_ok h
  refine lv_ldiv hx hb gd_Trains_compareRatios_2 g1 ?_
  refine lv_lload hx hb gd_Trains_compareRatios_3 (lv_at hl 2 rfl) ?_
  refine lv_lload hx hb gd_Trains_compareRatios_5 (lv_at hl 3 rfl) ?_
  obtain ⟨g2, h⟩ := gf_if_ok h
  refine lv_ldiv hx hb gd_Trains_compareRatios_7 g2 ?_
  obtain ⟨a5, u3, d4, h⟩ := gf_cl_ok h
  refine gw_callSi (As := [.long (y0 / y2), .long (y4 / y6)]) (rest := []) C hW (fun _ h => Or.inr h) hl.1 gm_Long_compare (gc_Long_compare l F  d4 _) gk_190 gk_191 rfl rfl ⟨Nat.le_of_ble_eq_true rfl, Nat.le_of_ble_eq_true rfl⟩ ⟨Nat.zero_le _, Nat.zero_le _⟩ rfl rfl (Nat.le_of_ble_eq_true rfl) gd_Trains_compareRatios_8 (fun H locs hW => ?_)
  refine lv_istore (lv' := [(8, .int a5), (0, .long y0), (2, .long y2), (4, .long y4), (6, .long y6)]) hx hb gd_Trains_compareRatios_11 hl (by decide) rfl (fun ls hl => ?_)
  refine lv_iload hx hb gd_Trains_compareRatios_13 (lv_at hl 0 rfl) ?_
  refine lv_if_eq (tgt := 23) hx hb gd_Trains_compareRatios_15 (by decide) (fun c6 => ?_) (fun c6 => ?_)
  · have h := gf_t c6 h
    refine lv_lload_n hx hb gd_Trains_compareRatios_23 rfl (lv_at hl 1 rfl) ?_
    refine lv_lload_n hx hb gd_Trains_compareRatios_24 rfl (lv_at hl 2 rfl) ?_
    obtain ⟨g7, h⟩ := gf_if_ok h
    refine lv_lrem hx hb gd_Trains_compareRatios_25 g7 ?_
    refine lv_lload hx hb gd_Trains_compareRatios_26 (lv_at hl 4 rfl) ?_
    refine lv_lmul hx hb gd_Trains_compareRatios_28 ?_
    refine lv_lload hx hb gd_Trains_compareRatios_29 (lv_at hl 3 rfl) ?_
    refine lv_lload hx hb gd_Trains_compareRatios_31 (lv_at hl 4 rfl) ?_
    obtain ⟨g8, h⟩ := gf_if_ok h
    refine lv_lrem hx hb gd_Trains_compareRatios_33 g8 ?_
    refine lv_lload_n hx hb gd_Trains_compareRatios_34 rfl (lv_at hl 2 rfl) ?_
    refine lv_lmul hx hb gd_Trains_compareRatios_35 ?_
    obtain ⟨a11, u9, d10, h⟩ := gf_cl_ok h
    refine gw_callSi (As := [.long ((y0 - y0 / y2 * y2) * y6), .long ((y4 - y4 / y6 * y6) * y2)]) (rest := []) C hW (fun _ h => Or.inr h) hl.1 gm_Long_compare (gc_Long_compare l F  d10 _) gk_190 gk_191 rfl rfl ⟨Nat.le_of_ble_eq_true rfl, Nat.le_of_ble_eq_true rfl⟩ ⟨Nat.zero_le _, Nat.zero_le _⟩ rfl rfl (Nat.le_of_ble_eq_true rfl) gd_Trains_compareRatios_36 (fun H locs hW => ?_)
    exact gx_Trains_compareRatios_b39 F C hr hk  u9 a11  hW (lv_sub hl [] rfl) h
  · have h := gf_f c6 h
    refine lv_iload hx hb gd_Trains_compareRatios_18 (lv_at hl 0 rfl) ?_
    refine lv_goto (tgt := 39) hx hb gd_Trains_compareRatios_20 (by decide) ?_
    exact gx_Trains_compareRatios_b39 F C hr hk  u3 a5  hW (lv_sub hl [] rfl) h

set_option maxRecDepth 20000 in
theorem gc_Trains_compareRatios (l : Launch) {D : va_G} {cA : Nat → ClassId} {hs : Nat → Nat} {z : gw_Sh} (F : Nat) {u : gw_St} {r0 : (Int32 × gw_St)} {y0 : Int64} {y2 : Int64} {y4 : Int64} {y6 : Int64}  (h : gf_Trains_compareRatios F z u y0 y2 y4 y6 = some r0) (sz : Nat) : gw_Mi l gy_Trains_compareRatios gb_Trains_compareRatios 9 (some .int) gr_Trains_compareRatios [.long y0, .long y2, .long y4, .long y6] D cA hs z u sz r0 := by
  refine gw_enter (by decide) (Nat.le_of_ble_eq_true rfl) ?_
  intro p e s m below meth c ls hsz C hW hr hk _ hl
  subst hsz
  exact gx_Trains_compareRatios_b0 F C hr hk u y0 y2 y4 y6  hW (lv_sub hl [0, 1, 2, 3] rfl) h
-- GearDesk$Trains.isBetter(JJJ)Z
theorem gk_193 : Cond.fieldLink R_Trains 62 R_Trains "bestDrivers" "J" ∈ gt_T := gt_m1 (List.mem_of_getElem? (i := 61) rfl) rfl
theorem gk_194 : Cond.fieldLink R_Trains 76 R_Trains "bestGap" "J" ∈ gt_T := gt_m1 (List.mem_of_getElem? (i := 63) rfl) rfl
theorem gk_195 : Cond.methodLink R_Trains 139 gy_Trains_compareRatios ∈ gt_T := gt_m4 (List.mem_of_getElem? (i := 123) rfl) rfl
theorem gk_196 : Cond.static gy_Trains_compareRatios ∈ gt_T := gt_m4 (List.mem_of_getElem? (i := 124) rfl) rfl
def gy_Trains_isBetter : MethodName := ⟨R_Trains, "isBetter", "(JJJ)Z"⟩
abbrev gb_Trains_isBetter : ByteArray := prog_7_method_18_code
theorem gk_197 : Cond.code gy_Trains_isBetter gb_Trains_isBetter 9 (some .boolean) ∈ gt_T := gt_m4 (List.mem_of_getElem? (i := 122) rfl) rfl
def gr_Trains_isBetter : Room := gw_rm 3 115
theorem gm_Trains_isBetter : gw_Mth gy_Trains_isBetter gb_Trains_isBetter 9 (some .boolean) 3 := ⟨gk_197, gk_131, ⟨by decide +kernel, by decide +kernel⟩, by decide +kernel⟩
theorem gd_Trains_isBetter_0 : decode gb_Trains_isBetter 0 = .ok (.lload 5, 2) := by decide +kernel
theorem gd_Trains_isBetter_2 : decode gb_Trains_isBetter 2 = .ok (.lload_n 3, 1) := by decide +kernel
theorem gd_Trains_isBetter_3 : decode gb_Trains_isBetter 3 = .ok (.invokestatic 72, 3) := by decide +kernel
theorem gd_Trains_isBetter_6 : decode gb_Trains_isBetter 6 = .ok (.aload_n 0, 1) := by decide +kernel
theorem gd_Trains_isBetter_7 : decode gb_Trains_isBetter 7 = .ok (.getfield 76, 3) := by decide +kernel
theorem gd_Trains_isBetter_10 : decode gb_Trains_isBetter 10 = .ok (.aload_n 0, 1) := by decide +kernel
theorem gd_Trains_isBetter_11 : decode gb_Trains_isBetter 11 = .ok (.getfield 65, 3) := by decide +kernel
theorem gd_Trains_isBetter_14 : decode gb_Trains_isBetter 14 = .ok (.invokestatic 72, 3) := by decide +kernel
theorem gd_Trains_isBetter_17 : decode gb_Trains_isBetter 17 = .ok (.invokestatic 139, 3) := by decide +kernel
theorem gd_Trains_isBetter_20 : decode gb_Trains_isBetter 20 = .ok (.istore 7, 2) := by decide +kernel
theorem gd_Trains_isBetter_22 : decode gb_Trains_isBetter 22 = .ok (.iload 7, 2) := by decide +kernel
theorem gd_Trains_isBetter_24 : decode gb_Trains_isBetter 24 = .ok (.ifCond .ne 34, 3) := by decide +kernel
theorem gd_Trains_isBetter_27 : decode gb_Trains_isBetter 27 = .ok (.aload_n 0, 1) := by decide +kernel
theorem gd_Trains_isBetter_28 : decode gb_Trains_isBetter 28 = .ok (.lload_n 1, 1) := by decide +kernel
theorem gd_Trains_isBetter_29 : decode gb_Trains_isBetter 29 = .ok (.invokevirtual 120, 3) := by decide +kernel
theorem gd_Trains_isBetter_32 : decode gb_Trains_isBetter 32 = .ok (.aload_n 0, 1) := by decide +kernel
theorem gd_Trains_isBetter_33 : decode gb_Trains_isBetter 33 = .ok (.lload_n 3, 1) := by decide +kernel
theorem gd_Trains_isBetter_34 : decode gb_Trains_isBetter 34 = .ok (.invokevirtual 120, 3) := by decide +kernel
theorem gd_Trains_isBetter_37 : decode gb_Trains_isBetter 37 = .ok (.iadd, 1) := by decide +kernel
theorem gd_Trains_isBetter_38 : decode gb_Trains_isBetter 38 = .ok (.aload_n 0, 1) := by decide +kernel
theorem gd_Trains_isBetter_39 : decode gb_Trains_isBetter 39 = .ok (.aload_n 0, 1) := by decide +kernel
theorem gd_Trains_isBetter_40 : decode gb_Trains_isBetter 40 = .ok (.getfield 62, 3) := by decide +kernel
theorem gd_Trains_isBetter_43 : decode gb_Trains_isBetter 43 = .ok (.invokevirtual 120, 3) := by decide +kernel
theorem gd_Trains_isBetter_46 : decode gb_Trains_isBetter 46 = .ok (.aload_n 0, 1) := by decide +kernel
theorem gd_Trains_isBetter_47 : decode gb_Trains_isBetter 47 = .ok (.aload_n 0, 1) := by decide +kernel
theorem gd_Trains_isBetter_48 : decode gb_Trains_isBetter 48 = .ok (.getfield 65, 3) := by decide +kernel
theorem gd_Trains_isBetter_51 : decode gb_Trains_isBetter 51 = .ok (.invokevirtual 120, 3) := by decide +kernel
theorem gd_Trains_isBetter_54 : decode gb_Trains_isBetter 54 = .ok (.iadd, 1) := by decide +kernel
theorem gd_Trains_isBetter_55 : decode gb_Trains_isBetter 55 = .ok (.isub, 1) := by decide +kernel
theorem gd_Trains_isBetter_56 : decode gb_Trains_isBetter 56 = .ok (.istore 7, 2) := by decide +kernel
theorem gd_Trains_isBetter_58 : decode gb_Trains_isBetter 58 = .ok (.iconst 0, 1) := by decide +kernel
theorem gd_Trains_isBetter_59 : decode gb_Trains_isBetter 59 = .ok (.istore 8, 2) := by decide +kernel
theorem gd_Trains_isBetter_61 : decode gb_Trains_isBetter 61 = .ok (.iload 8, 2) := by decide +kernel
theorem gd_Trains_isBetter_63 : decode gb_Trains_isBetter 63 = .ok (.aload_n 0, 1) := by decide +kernel
theorem gd_Trains_isBetter_64 : decode gb_Trains_isBetter 64 = .ok (.getfield 33, 3) := by decide +kernel
theorem gd_Trains_isBetter_67 : decode gb_Trains_isBetter 67 = .ok (.if_icmp .ge 59, 3) := by decide +kernel
theorem gd_Trains_isBetter_70 : decode gb_Trains_isBetter 70 = .ok (.iload 7, 2) := by decide +kernel
theorem gd_Trains_isBetter_72 : decode gb_Trains_isBetter 72 = .ok (.ifCond .ne 54, 3) := by decide +kernel
theorem gd_Trains_isBetter_75 : decode gb_Trains_isBetter 75 = .ok (.aload_n 0, 1) := by decide +kernel
theorem gd_Trains_isBetter_76 : decode gb_Trains_isBetter 76 = .ok (.lload_n 1, 1) := by decide +kernel
theorem gd_Trains_isBetter_77 : decode gb_Trains_isBetter 77 = .ok (.iload 8, 2) := by decide +kernel
theorem gd_Trains_isBetter_79 : decode gb_Trains_isBetter 79 = .ok (.invokevirtual 68, 3) := by decide +kernel
theorem gd_Trains_isBetter_82 : decode gb_Trains_isBetter 82 = .ok (.aload_n 0, 1) := by decide +kernel
theorem gd_Trains_isBetter_83 : decode gb_Trains_isBetter 83 = .ok (.aload_n 0, 1) := by decide +kernel
theorem gd_Trains_isBetter_84 : decode gb_Trains_isBetter 84 = .ok (.getfield 62, 3) := by decide +kernel
theorem gd_Trains_isBetter_87 : decode gb_Trains_isBetter 87 = .ok (.iload 8, 2) := by decide +kernel
theorem gd_Trains_isBetter_89 : decode gb_Trains_isBetter 89 = .ok (.invokevirtual 68, 3) := by decide +kernel
theorem gd_Trains_isBetter_92 : decode gb_Trains_isBetter 92 = .ok (.isub, 1) := by decide +kernel
theorem gd_Trains_isBetter_93 : decode gb_Trains_isBetter 93 = .ok (.istore 7, 2) := by decide +kernel
theorem gd_Trains_isBetter_95 : decode gb_Trains_isBetter 95 = .ok (.iload 7, 2) := by decide +kernel
theorem gd_Trains_isBetter_97 : decode gb_Trains_isBetter 97 = .ok (.ifCond .ne 23, 3) := by decide +kernel
theorem gd_Trains_isBetter_100 : decode gb_Trains_isBetter 100 = .ok (.aload_n 0, 1) := by decide +kernel
theorem gd_Trains_isBetter_101 : decode gb_Trains_isBetter 101 = .ok (.lload_n 3, 1) := by decide +kernel
theorem gd_Trains_isBetter_102 : decode gb_Trains_isBetter 102 = .ok (.iload 8, 2) := by decide +kernel
theorem gd_Trains_isBetter_104 : decode gb_Trains_isBetter 104 = .ok (.invokevirtual 68, 3) := by decide +kernel
theorem gd_Trains_isBetter_107 : decode gb_Trains_isBetter 107 = .ok (.aload_n 0, 1) := by decide +kernel
theorem gd_Trains_isBetter_108 : decode gb_Trains_isBetter 108 = .ok (.aload_n 0, 1) := by decide +kernel
theorem gd_Trains_isBetter_109 : decode gb_Trains_isBetter 109 = .ok (.getfield 65, 3) := by decide +kernel
theorem gd_Trains_isBetter_112 : decode gb_Trains_isBetter 112 = .ok (.iload 8, 2) := by decide +kernel
theorem gd_Trains_isBetter_114 : decode gb_Trains_isBetter 114 = .ok (.invokevirtual 68, 3) := by decide +kernel
theorem gd_Trains_isBetter_117 : decode gb_Trains_isBetter 117 = .ok (.isub, 1) := by decide +kernel
theorem gd_Trains_isBetter_118 : decode gb_Trains_isBetter 118 = .ok (.istore 7, 2) := by decide +kernel
theorem gd_Trains_isBetter_120 : decode gb_Trains_isBetter 120 = .ok (.iinc 8 1, 3) := by decide +kernel
theorem gd_Trains_isBetter_123 : decode gb_Trains_isBetter 123 = .ok (.goto (-62), 3) := by decide +kernel
theorem gd_Trains_isBetter_126 : decode gb_Trains_isBetter 126 = .ok (.iload 7, 2) := by decide +kernel
theorem gd_Trains_isBetter_128 : decode gb_Trains_isBetter 128 = .ok (.ifCond .ge 7, 3) := by decide +kernel
theorem gd_Trains_isBetter_131 : decode gb_Trains_isBetter 131 = .ok (.iconst 1, 1) := by decide +kernel
theorem gd_Trains_isBetter_132 : decode gb_Trains_isBetter 132 = .ok (.goto 4, 3) := by decide +kernel
theorem gd_Trains_isBetter_135 : decode gb_Trains_isBetter 135 = .ok (.iconst 0, 1) := by decide +kernel
theorem gd_Trains_isBetter_136 : decode gb_Trains_isBetter 136 = .ok (.ireturn, 1) := by decide +kernel
def gf_Trains_isBetter_b136 (F : Nat) (z : gw_Sh)  (u : gw_St) (sx0 : Int32) : Option (Int32 × gw_St) :=
  if ¬ (sx0 &&& 1 = sx0) then none else some (sx0, u)
def gf_Trains_isBetter_b126 (F : Nat) (z : gw_Sh)  (u : gw_St) (x7 : Int32) : Option (Int32 × gw_St) :=
  if 0 ≤ x7 then (gf_Trains_isBetter_b136 F z  u 0) else (gf_Trains_isBetter_b136 F z  u 1)
def gf_Trains_isBetter_b120 (F : Nat) (z : gw_Sh) (rc_61 : gw_St → Nat → Int64 → Int64 → Int32 → Int32 → Option (Int32 × gw_St)) (u : gw_St) (t0 : Nat) (y1 : Int64) (y3 : Int64) (x7 : Int32) (x8 : Int32) : Option (Int32 × gw_St) :=
  gf_nm (x8 + 1) fun a3 => rc_61 u t0 y1 y3 x7 a3
def gf_Trains_isBetter_S61 (F : Nat) (z : gw_Sh)  (rc_61 : gw_St → Nat → Int64 → Int64 → Int32 → Int32 → Option (Int32 × gw_St)) (u : gw_St) (t0 : Nat) (y1 : Int64) (y3 : Int64) (x7 : Int32) (x8 : Int32) : Option (Int32 × gw_St) :=
  if (u.1 t0 6) ≤ x8 then (gf_Trains_isBetter_b126 F z  u x7) else (if x7 = 0 then (gf_cl (gf_Trains_wheel F z u t0 y1 x8) fun a9 u7 => gf_cl (gf_Trains_wheel F z u7 t0 (u7.2.1 t0 14) x8) fun a12 u10 => gf_nm (a9 - a12) fun a13 => if a13 = 0 then (gf_cl (gf_Trains_wheel F z u10 t0 y3 x8) fun a18 u16 => gf_cl (gf_Trains_wheel F z u16 t0 (u16.2.1 t0 15) x8) fun a21 u19 => gf_nm (a18 - a21) fun a22 => gf_Trains_isBetter_b120 F z rc_61 u19 t0 y1 y3 a22 x8) else (gf_Trains_isBetter_b120 F z rc_61 u10 t0 y1 y3 a13 x8)) else (gf_Trains_isBetter_b126 F z  u x7))
def gf_Trains_isBetter_L61 (F : Nat) (z : gw_Sh)  : Nat → gw_St → Nat → Int64 → Int64 → Int32 → Int32 → Option (Int32 × gw_St)
  | 0 => fun _ _ _ _ _ _ => none
  | n + 1 => fun u t0 y1 y3 x7 x8 => gf_Trains_isBetter_S61 F z  (gf_Trains_isBetter_L61 F z  n) u t0 y1 y3 x7 x8
def gf_Trains_isBetter_b58 (F : Nat) (z : gw_Sh)  (u : gw_St) (t0 : Nat) (y1 : Int64) (y3 : Int64) (x7 : Int32) : Option (Int32 × gw_St) :=
  gf_Trains_isBetter_L61 F z  F u t0 y1 y3 x7 0
def gf_Trains_isBetter_b0 (F : Nat) (z : gw_Sh)  (u : gw_St) (t0 : Nat) (y1 : Int64) (y3 : Int64) (y5 : Int64) : Option (Int32 × gw_St) :=
  gf_cl (gf_Trains_product F z u y3) fun a26 u24 => gf_cl (gf_Trains_product F z u24 (u24.2.1 t0 15)) fun a29 u27 => gf_cl (gf_Trains_compareRatios F z u27 y5 a26 (u24.2.1 t0 16) a29) fun a32 u30 => if a32 = 0 then (gf_cl (gf_Trains_teeth F z u30 t0 y1) fun a36 u34 => gf_cl (gf_Trains_teeth F z u34 t0 y3) fun a39 u37 => gf_cl (gf_Trains_teeth F z u37 t0 (u37.2.1 t0 14)) fun a42 u40 => gf_cl (gf_Trains_teeth F z u40 t0 (u40.2.1 t0 15)) fun a45 u43 => gf_nm ((a36 + a39) - (a42 + a45)) fun a46 => gf_Trains_isBetter_b58 F z  u43 t0 y1 y3 a46) else (gf_Trains_isBetter_b58 F z  u30 t0 y1 y3 a32)
def gf_Trains_isBetter (F : Nat) (z : gw_Sh) (u : gw_St) (t0 : Nat) (y1 : Int64) (y3 : Int64) (y5 : Int64) : Option (Int32 × gw_St) := gf_Trains_isBetter_b0 F z  u t0 y1 y3 y5
set_option maxHeartbeats 4000000 in
set_option maxRecDepth 20000 in
theorem gx_Trains_isBetter_b136 {p : Program} {l : Launch} {e : Env} {s : State} {m : MethodId} {args : Array Value} {below : List Frame} {meth : Method} {c : Code} {D : va_G} {cA : Nat → ClassId} {hs : Nat → Nat} {z : gw_Sh} (F : Nat) {r0 : (Int32 × gw_St)} (C : gw_Cx p s m args c gb_Trains_isBetter 9 R_Trains D cA) (hr : meth.sig.returnType = (some .boolean)) (hk : meth.locks = false) (u : gw_St) (sx0 : Int32)  {H : Heap} {locs : List Loc} {ls : Array Slot} (hW : gw_Wx D cA hs z s u H locs) (hl : lv_has ls 9 []) (h : gf_Trains_isBetter_b136 F z   u sx0 = some r0) : gw_Gi p l e gr_Trains_isBetter s m args below meth c D cA hs z r0 H locs ls 136 [.int sx0] := by
  obtain ⟨hx, hb, hml, hown, hts, hK⟩ := id C
  unfold gf_Trains_isBetter_b136 at h
  obtain ⟨g1, h⟩ := gf_if_ok h
  obtain rfl := Option.some.inj h
  exact gw_zret C hW hr (Decidable.not_not.mp g1) hk gd_Trains_isBetter_136

set_option maxHeartbeats 4000000 in
set_option maxRecDepth 20000 in
theorem gx_Trains_isBetter_b126 {p : Program} {l : Launch} {e : Env} {s : State} {m : MethodId} {args : Array Value} {below : List Frame} {meth : Method} {c : Code} {D : va_G} {cA : Nat → ClassId} {hs : Nat → Nat} {z : gw_Sh} (F : Nat) {r0 : (Int32 × gw_St)} (C : gw_Cx p s m args c gb_Trains_isBetter 9 R_Trains D cA) (hr : meth.sig.returnType = (some .boolean)) (hk : meth.locks = false) (u : gw_St) (x7 : Int32)  {H : Heap} {locs : List Loc} {ls : Array Slot} (hW : gw_Wx D cA hs z s u H locs) (hl : lv_has ls 9 [(7, .int x7)]) (h : gf_Trains_isBetter_b126 F z   u x7 = some r0) : gw_Gi p l e gr_Trains_isBetter s m args below meth c D cA hs z r0 H locs ls 126 [] := by
  obtain ⟨hx, hb, hml, hown, hts, hK⟩ := id C
  unfold gf_Trains_isBetter_b126 at h
  refine lv_iload hx hb gd_Trains_isBetter_126 (lv_at hl 0 rfl) ?_
  refine lv_if_ge (tgt := 135) hx hb gd_Trains_isBetter_128 (by decide) (fun c2 => ?_) (fun c2 => ?_)
  · have h := gf_t c2 h
    refine lv_iconst (v := 0) hx hb gd_Trains_isBetter_135 (by decide) ?_
    exact gx_Trains_isBetter_b136 F C hr hk  u 0  hW (lv_sub hl [] rfl) h
  · have h := gf_f c2 h
    refine lv_iconst (v := 1) hx hb gd_Trains_isBetter_131 (by decide) ?_
    refine lv_goto (tgt := 136) hx hb gd_Trains_isBetter_132 (by decide) ?_
    exact gx_Trains_isBetter_b136 F C hr hk  u 1  hW (lv_sub hl [] rfl) h

set_option maxHeartbeats 4000000 in
set_option maxRecDepth 20000 in
theorem gx_Trains_isBetter_b120 {p : Program} {l : Launch} {e : Env} {s : State} {m : MethodId} {args : Array Value} {below : List Frame} {meth : Method} {c : Code} {D : va_G} {cA : Nat → ClassId} {hs : Nat → Nat} {z : gw_Sh} (F : Nat) {r0 : (Int32 × gw_St)} (C : gw_Cx p s m args c gb_Trains_isBetter 9 R_Trains D cA) (hr : meth.sig.returnType = (some .boolean)) (hk : meth.locks = false) {rc_61 : gw_St → Nat → Int64 → Int64 → Int32 → Int32 → Option (Int32 × gw_St)} (k_61 : ∀ (u : gw_St) (t0 : Nat) (y1 : Int64) (y3 : Int64) (x7 : Int32) (x8 : Int32) (H : Heap) (locs : List Loc) (ls : Array Slot), gw_ok z t0 1 → gw_Wx D cA hs z s u H locs → lv_has ls 9 [(0, .ref (hs t0)), (1, .long y1), (3, .long y3), (7, .int x7), (8, .int x8)] → rc_61 u t0 y1 y3 x7 x8 = some r0 → gw_Gi p l e gr_Trains_isBetter s m args below meth c D cA hs z r0 H locs ls 61 []) (u : gw_St) (t0 : Nat) (y1 : Int64) (y3 : Int64) (x7 : Int32) (x8 : Int32) (o_t0 : gw_ok z t0 1) {H : Heap} {locs : List Loc} {ls : Array Slot} (hW : gw_Wx D cA hs z s u H locs) (hl : lv_has ls 9 [(0, .ref (hs t0)), (1, .long y1), (3, .long y3), (7, .int x7), (8, .int x8)]) (h : gf_Trains_isBetter_b120 F z rc_61  u t0 y1 y3 x7 x8 = some r0) : gw_Gi p l e gr_Trains_isBetter s m args below meth c D cA hs z r0 H locs ls 120 [] := by
  obtain ⟨hx, hb, hml, hown, hts, hK⟩ := id C
  unfold gf_Trains_isBetter_b120 at h
  obtain ⟨a3, e4⟩ : ∃ y : Int32, y = x8 + 1 := ⟨_, rfl⟩
  have h := gf_nm_ok e4 h
  refine lv_iinc (v := a3) (lv' := [(8, .int a3), (0, .ref (hs t0)), (1, .long y1), (3, .long y3), (7, .int x7)]) hx hb gd_Trains_isBetter_120 hl (k := 4) rfl (by rw [e4]; rfl) (by decide) rfl (fun ls hl => ?_)
  refine lv_goto (tgt := 61) hx hb gd_Trains_isBetter_123 (by decide) ?_
  exact k_61 u t0 y1 y3 x7 a3 _ _ _ o_t0 hW (lv_sub hl [1, 2, 3, 4, 0] rfl) h

set_option maxHeartbeats 4000000 in
set_option maxRecDepth 20000 in
theorem gx_Trains_isBetter_S61 {p : Program} {l : Launch} {e : Env} {s : State} {m : MethodId} {args : Array Value} {below : List Frame} {meth : Method} {c : Code} {D : va_G} {cA : Nat → ClassId} {hs : Nat → Nat} {z : gw_Sh} (F : Nat) {r0 : (Int32 × gw_St)} (C : gw_Cx p s m args c gb_Trains_isBetter 9 R_Trains D cA) (hr : meth.sig.returnType = (some .boolean)) (hk : meth.locks = false) {rc_61 : gw_St → Nat → Int64 → Int64 → Int32 → Int32 → Option (Int32 × gw_St)} (k_61 : ∀ (u : gw_St) (t0 : Nat) (y1 : Int64) (y3 : Int64) (x7 : Int32) (x8 : Int32) (H : Heap) (locs : List Loc) (ls : Array Slot), gw_ok z t0 1 → gw_Wx D cA hs z s u H locs → lv_has ls 9 [(0, .ref (hs t0)), (1, .long y1), (3, .long y3), (7, .int x7), (8, .int x8)] → rc_61 u t0 y1 y3 x7 x8 = some r0 → gw_Gi p l e gr_Trains_isBetter s m args below meth c D cA hs z r0 H locs ls 61 []) (u : gw_St) (t0 : Nat) (y1 : Int64) (y3 : Int64) (x7 : Int32) (x8 : Int32) (o_t0 : gw_ok z t0 1) {H : Heap} {locs : List Loc} {ls : Array Slot} (hW : gw_Wx D cA hs z s u H locs) (hl : lv_has ls 9 [(0, .ref (hs t0)), (1, .long y1), (3, .long y3), (7, .int x7), (8, .int x8)]) (h : gf_Trains_isBetter_S61 F z  rc_61 u t0 y1 y3 x7 x8 = some r0) : gw_Gi p l e gr_Trains_isBetter s m args below meth c D cA hs z r0 H locs ls 61 [] := by
  obtain ⟨hx, hb, hml, hown, hts, hK⟩ := id C
  unfold gf_Trains_isBetter_S61 at h
  refine lv_iload hx hb gd_Trains_isBetter_61 (lv_at hl 4 rfl) ?_
  refine lv_aload_n hx hb gd_Trains_isBetter_63 rfl (lv_at hl 0 rfl) ?_
  refine gw_geti (k := 6) (ref := R_Trains) C hW o_t0 (by decide) rfl gi_Trains rfl (by decide) rfl rfl gk_133 gd_Trains_isBetter_64 ?_
  refine lv_icmp_ge (tgt := 126) hx hb gd_Trains_isBetter_67 (by decide) (fun c5 => ?_) (fun c5 => ?_)
  · have h := gf_t c5 h
    exact gx_Trains_isBetter_b126 F C hr hk  u x7  hW (lv_sub hl [3] rfl) h
  · have h := gf_f c5 h
    refine lv_iload hx hb gd_Trains_isBetter_70 (lv_at hl 3 rfl) ?_
    refine lv_if_ne (tgt := 126) hx hb gd_Trains_isBetter_72 (by decide) (fun c6 => ?_) (fun c6 => ?_)
    · have h := gf_f c6 h
      exact gx_Trains_isBetter_b126 F C hr hk  u x7  hW (lv_sub hl [3] rfl) h
    · have h := gf_t c6 h
      refine lv_aload_n hx hb gd_Trains_isBetter_75 rfl (lv_at hl 0 rfl) ?_
      refine lv_lload_n hx hb gd_Trains_isBetter_76 rfl (lv_at hl 1 rfl) ?_
      refine lv_iload hx hb gd_Trains_isBetter_77 (lv_at hl 4 rfl) ?_
      obtain ⟨a9, u7, d8, h⟩ := gf_cl_ok h
      refine gw_callVi (K := R_Trains) (As := [.long y1, .int x8]) (rest := []) C hW (fun _ h => Or.inr h) hl.1 gm_Trains_wheel (gc_Trains_wheel l F o_t0 d8 _) gk_167 gk_168 gk_169 o_t0 (by decide) rfl rfl rfl ⟨Nat.le_of_ble_eq_true rfl, Nat.le_of_ble_eq_true rfl⟩ ⟨Nat.zero_le _, Nat.zero_le _⟩ rfl rfl (Nat.le_of_ble_eq_true rfl) gd_Trains_isBetter_79 (fun H locs hW => ?_)
      refine lv_aload_n hx hb gd_Trains_isBetter_82 rfl (lv_at hl 0 rfl) ?_
      refine lv_aload_n hx hb gd_Trains_isBetter_83 rfl (lv_at hl 0 rfl) ?_
      refine gw_getl (k := 14) (ref := R_Trains) C hW o_t0 (by decide) rfl gi_Trains rfl (by decide) rfl rfl gk_193 gd_Trains_isBetter_84 ?_
      refine lv_iload hx hb gd_Trains_isBetter_87 (lv_at hl 4 rfl) ?_
      obtain ⟨a12, u10, d11, h⟩ := gf_cl_ok h
      refine gw_callVi (K := R_Trains) (As := [.long (u7.2.1 t0 14), .int x8]) (rest := [.int a9]) C hW (fun _ h => Or.inr h) hl.1 gm_Trains_wheel (gc_Trains_wheel l F o_t0 d11 _) gk_167 gk_168 gk_169 o_t0 (by decide) rfl rfl rfl ⟨Nat.le_of_ble_eq_true rfl, Nat.le_of_ble_eq_true rfl⟩ ⟨Nat.zero_le _, Nat.zero_le _⟩ rfl rfl (Nat.le_of_ble_eq_true rfl) gd_Trains_isBetter_89 (fun H locs hW => ?_)
      refine lv_isub hx hb gd_Trains_isBetter_92 ?_
      refine lv_topi (fun a13 e14 => ?_)
      have h := gf_nm_ok e14 h
      refine lv_istore (lv' := [(7, .int a13), (0, .ref (hs t0)), (1, .long y1), (3, .long y3), (8, .int x8)]) hx hb gd_Trains_isBetter_93 hl (by decide) rfl (fun ls hl => ?_)
      refine lv_iload hx hb gd_Trains_isBetter_95 (lv_at hl 0 rfl) ?_
      refine lv_if_ne (tgt := 120) hx hb gd_Trains_isBetter_97 (by decide) (fun c15 => ?_) (fun c15 => ?_)
      · have h := gf_f c15 h
        exact gx_Trains_isBetter_b120 F C hr hk k_61 u10 t0 y1 y3 a13 x8 o_t0 hW (lv_sub hl [1, 2, 3, 0, 4] rfl) h
      · have h := gf_t c15 h
        refine lv_aload_n hx hb gd_Trains_isBetter_100 rfl (lv_at hl 1 rfl) ?_
        refine lv_lload_n hx hb gd_Trains_isBetter_101 rfl (lv_at hl 3 rfl) ?_
        refine lv_iload hx hb gd_Trains_isBetter_102 (lv_at hl 4 rfl) ?_
        obtain ⟨a18, u16, d17, h⟩ := gf_cl_ok h
        refine gw_callVi (K := R_Trains) (As := [.long y3, .int x8]) (rest := []) C hW (fun _ h => Or.inr h) hl.1 gm_Trains_wheel (gc_Trains_wheel l F o_t0 d17 _) gk_167 gk_168 gk_169 o_t0 (by decide) rfl rfl rfl ⟨Nat.le_of_ble_eq_true rfl, Nat.le_of_ble_eq_true rfl⟩ ⟨Nat.zero_le _, Nat.zero_le _⟩ rfl rfl (Nat.le_of_ble_eq_true rfl) gd_Trains_isBetter_104 (fun H locs hW => ?_)
        refine lv_aload_n hx hb gd_Trains_isBetter_107 rfl (lv_at hl 1 rfl) ?_
        refine lv_aload_n hx hb gd_Trains_isBetter_108 rfl (lv_at hl 1 rfl) ?_
        refine gw_getl (k := 15) (ref := R_Trains) C hW o_t0 (by decide) rfl gi_Trains rfl (by decide) rfl rfl gk_183 gd_Trains_isBetter_109 ?_
        refine lv_iload hx hb gd_Trains_isBetter_112 (lv_at hl 4 rfl) ?_
        obtain ⟨a21, u19, d20, h⟩ := gf_cl_ok h
        refine gw_callVi (K := R_Trains) (As := [.long (u16.2.1 t0 15), .int x8]) (rest := [.int a18]) C hW (fun _ h => Or.inr h) hl.1 gm_Trains_wheel (gc_Trains_wheel l F o_t0 d20 _) gk_167 gk_168 gk_169 o_t0 (by decide) rfl rfl rfl ⟨Nat.le_of_ble_eq_true rfl, Nat.le_of_ble_eq_true rfl⟩ ⟨Nat.zero_le _, Nat.zero_le _⟩ rfl rfl (Nat.le_of_ble_eq_true rfl) gd_Trains_isBetter_114 (fun H locs hW => ?_)
        refine lv_isub hx hb gd_Trains_isBetter_117 ?_
        refine lv_topi (fun a22 e23 => ?_)
        have h := gf_nm_ok e23 h
        refine lv_istore (lv' := [(7, .int a22), (0, .ref (hs t0)), (1, .long y1), (3, .long y3), (8, .int x8)]) hx hb gd_Trains_isBetter_118 hl (by decide) rfl (fun ls hl => ?_)
        exact gx_Trains_isBetter_b120 F C hr hk k_61 u19 t0 y1 y3 a22 x8 o_t0 hW (lv_sub hl [1, 2, 3, 0, 4] rfl) h
set_option maxHeartbeats 4000000 in
set_option maxRecDepth 20000 in
theorem gx_Trains_isBetter_L61 {p : Program} {l : Launch} {e : Env} {s : State} {m : MethodId} {args : Array Value} {below : List Frame} {meth : Method} {c : Code} {D : va_G} {cA : Nat → ClassId} {hs : Nat → Nat} {z : gw_Sh} (F : Nat) {r0 : (Int32 × gw_St)} (C : gw_Cx p s m args c gb_Trains_isBetter 9 R_Trains D cA) (hr : meth.sig.returnType = (some .boolean)) (hk : meth.locks = false) : ∀ (n : Nat), ∀ (u : gw_St) (t0 : Nat) (y1 : Int64) (y3 : Int64) (x7 : Int32) (x8 : Int32) (H : Heap) (locs : List Loc) (ls : Array Slot), gw_ok z t0 1 → gw_Wx D cA hs z s u H locs → lv_has ls 9 [(0, .ref (hs t0)), (1, .long y1), (3, .long y3), (7, .int x7), (8, .int x8)] → gf_Trains_isBetter_L61 F z  n u t0 y1 y3 x7 x8 = some r0 → gw_Gi p l e gr_Trains_isBetter s m args below meth c D cA hs z r0 H locs ls 61 [] := by
  intro n
  induction n with
  | zero =>
    intro u t0 y1 y3 x7 x8 H locs ls o_t0 hW hl h
    cases h
  | succ n ih =>
    intro u t0 y1 y3 x7 x8 H locs ls o_t0 hW hl h
    exact gx_Trains_isBetter_S61 F C hr hk  ih u t0 y1 y3 x7 x8 o_t0 hW hl h

set_option maxHeartbeats 4000000 in
set_option maxRecDepth 20000 in
theorem gx_Trains_isBetter_b58 {p : Program} {l : Launch} {e : Env} {s : State} {m : MethodId} {args : Array Value} {below : List Frame} {meth : Method} {c : Code} {D : va_G} {cA : Nat → ClassId} {hs : Nat → Nat} {z : gw_Sh} (F : Nat) {r0 : (Int32 × gw_St)} (C : gw_Cx p s m args c gb_Trains_isBetter 9 R_Trains D cA) (hr : meth.sig.returnType = (some .boolean)) (hk : meth.locks = false) (u : gw_St) (t0 : Nat) (y1 : Int64) (y3 : Int64) (x7 : Int32) (o_t0 : gw_ok z t0 1) {H : Heap} {locs : List Loc} {ls : Array Slot} (hW : gw_Wx D cA hs z s u H locs) (hl : lv_has ls 9 [(0, .ref (hs t0)), (1, .long y1), (3, .long y3), (7, .int x7)]) (h : gf_Trains_isBetter_b58 F z   u t0 y1 y3 x7 = some r0) : gw_Gi p l e gr_Trains_isBetter s m args below meth c D cA hs z r0 H locs ls 58 [] := by
  obtain ⟨hx, hb, hml, hown, hts, hK⟩ := id C
  unfold gf_Trains_isBetter_b58 at h
  refine lv_iconst (v := 0) hx hb gd_Trains_isBetter_58 (by decide) ?_
  refine lv_istore (lv' := [(8, .int 0), (0, .ref (hs t0)), (1, .long y1), (3, .long y3), (7, .int x7)]) hx hb gd_Trains_isBetter_59 hl (by decide) rfl (fun ls hl => ?_)
  exact gx_Trains_isBetter_L61 F C hr hk  F u t0 y1 y3 x7 0 _ _ _ o_t0 hW (lv_sub hl [1, 2, 3, 4, 0] rfl) h

set_option maxHeartbeats 4000000 in
set_option maxRecDepth 20000 in
theorem gx_Trains_isBetter_b0 {p : Program} {l : Launch} {e : Env} {s : State} {m : MethodId} {args : Array Value} {below : List Frame} {meth : Method} {c : Code} {D : va_G} {cA : Nat → ClassId} {hs : Nat → Nat} {z : gw_Sh} (F : Nat) {r0 : (Int32 × gw_St)} (C : gw_Cx p s m args c gb_Trains_isBetter 9 R_Trains D cA) (hr : meth.sig.returnType = (some .boolean)) (hk : meth.locks = false) (u : gw_St) (t0 : Nat) (y1 : Int64) (y3 : Int64) (y5 : Int64) (o_t0 : gw_ok z t0 1) {H : Heap} {locs : List Loc} {ls : Array Slot} (hW : gw_Wx D cA hs z s u H locs) (hl : lv_has ls 9 [(0, .ref (hs t0)), (1, .long y1), (3, .long y3), (5, .long y5)]) (h : gf_Trains_isBetter_b0 F z   u t0 y1 y3 y5 = some r0) : gw_Gi p l e gr_Trains_isBetter s m args below meth c D cA hs z r0 H locs ls 0 [] := by
  obtain ⟨hx, hb, hml, hown, hts, hK⟩ := id C
  unfold gf_Trains_isBetter_b0 at h
  refine lv_lload hx hb gd_Trains_isBetter_0 (lv_at hl 3 rfl) ?_
  refine lv_lload_n hx hb gd_Trains_isBetter_2 rfl (lv_at hl 2 rfl) ?_
  obtain ⟨a26, u24, d25, h⟩ := gf_cl_ok h
  refine gw_callSl (As := [.long y3]) (rest := [.long y5]) C hW (fun _ h => Or.inr h) hl.1 gm_Trains_product (gc_Trains_product l F  d25 _) gk_163 gk_164 rfl rfl ⟨Nat.le_of_ble_eq_true rfl, Nat.le_of_ble_eq_true rfl⟩ ⟨Nat.zero_le _, Nat.zero_le _⟩ rfl rfl (Nat.le_of_ble_eq_true rfl) gd_Trains_isBetter_3 (fun H locs hW => ?_)
  refine lv_aload_n hx hb gd_Trains_isBetter_6 rfl (lv_at hl 0 rfl) ?_
  refine gw_getl (k := 16) (ref := R_Trains) C hW o_t0 (by decide) rfl gi_Trains rfl (by decide) rfl rfl gk_194 gd_Trains_isBetter_7 ?_
  refine lv_aload_n hx hb gd_Trains_isBetter_10 rfl (lv_at hl 0 rfl) ?_
  refine gw_getl (k := 15) (ref := R_Trains) C hW o_t0 (by decide) rfl gi_Trains rfl (by decide) rfl rfl gk_183 gd_Trains_isBetter_11 ?_
  obtain ⟨a29, u27, d28, h⟩ := gf_cl_ok h
  refine gw_callSl (As := [.long (u24.2.1 t0 15)]) (rest := [.long (u24.2.1 t0 16), .long a26, .long y5]) C hW (fun _ h => Or.inr h) hl.1 gm_Trains_product (gc_Trains_product l F  d28 _) gk_163 gk_164 rfl rfl ⟨Nat.le_of_ble_eq_true rfl, Nat.le_of_ble_eq_true rfl⟩ ⟨Nat.zero_le _, Nat.zero_le _⟩ rfl rfl (Nat.le_of_ble_eq_true rfl) gd_Trains_isBetter_14 (fun H locs hW => ?_)
  obtain ⟨a32, u30, d31, h⟩ := gf_cl_ok h
  refine gw_callSi (As := [.long y5, .long a26, .long (u24.2.1 t0 16), .long a29]) (rest := []) C hW (fun _ h => Or.inr h) hl.1 gm_Trains_compareRatios (gc_Trains_compareRatios l F  d31 _) gk_195 gk_196 rfl rfl ⟨Nat.le_of_ble_eq_true rfl, Nat.le_of_ble_eq_true rfl⟩ ⟨Nat.zero_le _, Nat.zero_le _⟩ rfl rfl (Nat.le_of_ble_eq_true rfl) gd_Trains_isBetter_17 (fun H locs hW => ?_)
  refine lv_istore (lv' := [(7, .int a32), (0, .ref (hs t0)), (1, .long y1), (3, .long y3), (5, .long y5)]) hx hb gd_Trains_isBetter_20 hl (by decide) rfl (fun ls hl => ?_)
  refine lv_iload hx hb gd_Trains_isBetter_22 (lv_at hl 0 rfl) ?_
  refine lv_if_ne (tgt := 58) hx hb gd_Trains_isBetter_24 (by decide) (fun c33 => ?_) (fun c33 => ?_)
  · have h := gf_f c33 h
    exact gx_Trains_isBetter_b58 F C hr hk  u30 t0 y1 y3 a32 o_t0 hW (lv_sub hl [1, 2, 3, 0] rfl) h
  · have h := gf_t c33 h
    refine lv_aload_n hx hb gd_Trains_isBetter_27 rfl (lv_at hl 1 rfl) ?_
    refine lv_lload_n hx hb gd_Trains_isBetter_28 rfl (lv_at hl 2 rfl) ?_
    obtain ⟨a36, u34, d35, h⟩ := gf_cl_ok h
    refine gw_callVi (K := R_Trains) (As := [.long y1]) (rest := []) C hW (fun _ h => Or.inr h) hl.1 gm_Trains_teeth (gc_Trains_teeth l F o_t0 d35 _) gk_172 gk_173 gk_174 o_t0 (by decide) rfl rfl rfl ⟨Nat.le_of_ble_eq_true rfl, Nat.le_of_ble_eq_true rfl⟩ ⟨Nat.zero_le _, Nat.zero_le _⟩ rfl rfl (Nat.le_of_ble_eq_true rfl) gd_Trains_isBetter_29 (fun H locs hW => ?_)
    refine lv_aload_n hx hb gd_Trains_isBetter_32 rfl (lv_at hl 1 rfl) ?_
    refine lv_lload_n hx hb gd_Trains_isBetter_33 rfl (lv_at hl 3 rfl) ?_
    obtain ⟨a39, u37, d38, h⟩ := gf_cl_ok h
    refine gw_callVi (K := R_Trains) (As := [.long y3]) (rest := [.int a36]) C hW (fun _ h => Or.inr h) hl.1 gm_Trains_teeth (gc_Trains_teeth l F o_t0 d38 _) gk_172 gk_173 gk_174 o_t0 (by decide) rfl rfl rfl ⟨Nat.le_of_ble_eq_true rfl, Nat.le_of_ble_eq_true rfl⟩ ⟨Nat.zero_le _, Nat.zero_le _⟩ rfl rfl (Nat.le_of_ble_eq_true rfl) gd_Trains_isBetter_34 (fun H locs hW => ?_)
    refine lv_iadd hx hb gd_Trains_isBetter_37 ?_
    refine lv_aload_n hx hb gd_Trains_isBetter_38 rfl (lv_at hl 1 rfl) ?_
    refine lv_aload_n hx hb gd_Trains_isBetter_39 rfl (lv_at hl 1 rfl) ?_
    refine gw_getl (k := 14) (ref := R_Trains) C hW o_t0 (by decide) rfl gi_Trains rfl (by decide) rfl rfl gk_193 gd_Trains_isBetter_40 ?_
    obtain ⟨a42, u40, d41, h⟩ := gf_cl_ok h
    refine gw_callVi (K := R_Trains) (As := [.long (u37.2.1 t0 14)]) (rest := [.int (a36 + a39)]) C hW (fun _ h => Or.inr h) hl.1 gm_Trains_teeth (gc_Trains_teeth l F o_t0 d41 _) gk_172 gk_173 gk_174 o_t0 (by decide) rfl rfl rfl ⟨Nat.le_of_ble_eq_true rfl, Nat.le_of_ble_eq_true rfl⟩ ⟨Nat.zero_le _, Nat.zero_le _⟩ rfl rfl (Nat.le_of_ble_eq_true rfl) gd_Trains_isBetter_43 (fun H locs hW => ?_)
    refine lv_aload_n hx hb gd_Trains_isBetter_46 rfl (lv_at hl 1 rfl) ?_
    refine lv_aload_n hx hb gd_Trains_isBetter_47 rfl (lv_at hl 1 rfl) ?_
    refine gw_getl (k := 15) (ref := R_Trains) C hW o_t0 (by decide) rfl gi_Trains rfl (by decide) rfl rfl gk_183 gd_Trains_isBetter_48 ?_
    obtain ⟨a45, u43, d44, h⟩ := gf_cl_ok h
    refine gw_callVi (K := R_Trains) (As := [.long (u40.2.1 t0 15)]) (rest := [.int a42, .int (a36 + a39)]) C hW (fun _ h => Or.inr h) hl.1 gm_Trains_teeth (gc_Trains_teeth l F o_t0 d44 _) gk_172 gk_173 gk_174 o_t0 (by decide) rfl rfl rfl ⟨Nat.le_of_ble_eq_true rfl, Nat.le_of_ble_eq_true rfl⟩ ⟨Nat.zero_le _, Nat.zero_le _⟩ rfl rfl (Nat.le_of_ble_eq_true rfl) gd_Trains_isBetter_51 (fun H locs hW => ?_)
    refine lv_iadd hx hb gd_Trains_isBetter_54 ?_
    refine lv_isub hx hb gd_Trains_isBetter_55 ?_
    refine lv_topi (fun a46 e47 => ?_)
    have h := gf_nm_ok e47 h
    refine lv_istore (lv' := [(7, .int a46), (0, .ref (hs t0)), (1, .long y1), (3, .long y3), (5, .long y5)]) hx hb gd_Trains_isBetter_56 hl (by decide) rfl (fun ls hl => ?_)
    exact gx_Trains_isBetter_b58 F C hr hk  u43 t0 y1 y3 a46 o_t0 hW (lv_sub hl [1, 2, 3, 0] rfl) h

set_option maxRecDepth 20000 in
theorem gc_Trains_isBetter (l : Launch) {D : va_G} {cA : Nat → ClassId} {hs : Nat → Nat} {z : gw_Sh} (F : Nat) {u : gw_St} {r0 : (Int32 × gw_St)} {t0 : Nat} {y1 : Int64} {y3 : Int64} {y5 : Int64} (o_t0 : gw_ok z t0 1) (h : gf_Trains_isBetter F z u t0 y1 y3 y5 = some r0) (sz : Nat) : gw_Mi l gy_Trains_isBetter gb_Trains_isBetter 9 (some .boolean) gr_Trains_isBetter [.ref (hs t0), .long y1, .long y3, .long y5] D cA hs z u sz r0 := by
  refine gw_enter (by decide) (Nat.le_of_ble_eq_true rfl) ?_
  intro p e s m below meth c ls hsz C hW hr hk _ hl
  subst hsz
  exact gx_Trains_isBetter_b0 F C hr hk u t0 y1 y3 y5 o_t0 hW (lv_sub hl [0, 1, 2, 3] rfl) h
-- GearDesk$Trains.tryTrain(JJ)V
theorem gk_198 : Cond.methodLink R_Trains 132 Lib.MathLoose.abs_long.x ∈ gt_T := gt_m4 (List.mem_of_getElem? (i := 118) rfl) rfl
theorem gk_199 : Cond.methodLink R_Trains 135 gy_Trains_isBetter ∈ gt_T := gt_m4 (List.mem_of_getElem? (i := 119) rfl) rfl
theorem gk_200 : Cond.instanceMethod gy_Trains_isBetter ∈ gt_T := gt_m4 (List.mem_of_getElem? (i := 121) rfl) rfl
theorem gk_201 : Cond.selects R_Trains gy_Trains_isBetter gy_Trains_isBetter ∈ gt_T := gt_p1 (List.mem_of_getElem? (i := 13) rfl) rfl
def gy_Trains_tryTrain : MethodName := ⟨R_Trains, "tryTrain", "(JJ)V"⟩
abbrev gb_Trains_tryTrain : ByteArray := prog_7_method_17_code
theorem gk_202 : Cond.code gy_Trains_tryTrain gb_Trains_tryTrain 7 none ∈ gt_T := gt_m4 (List.mem_of_getElem? (i := 117) rfl) rfl
def gr_Trains_tryTrain : Room := gw_rm 4 143
theorem gm_Trains_tryTrain : gw_Mth gy_Trains_tryTrain gb_Trains_tryTrain 7 none 2 := ⟨gk_202, gk_131, ⟨by decide +kernel, by decide +kernel⟩, by decide +kernel⟩
theorem gd_Trains_tryTrain_0 : decode gb_Trains_tryTrain 0 = .ok (.lload_n 1, 1) := by decide +kernel
theorem gd_Trains_tryTrain_1 : decode gb_Trains_tryTrain 1 = .ok (.invokestatic 72, 3) := by decide +kernel
theorem gd_Trains_tryTrain_4 : decode gb_Trains_tryTrain 4 = .ok (.aload_n 0, 1) := by decide +kernel
theorem gd_Trains_tryTrain_5 : decode gb_Trains_tryTrain 5 = .ok (.getfield 30, 3) := by decide +kernel
theorem gd_Trains_tryTrain_8 : decode gb_Trains_tryTrain 8 = .ok (.lmul, 1) := by decide +kernel
theorem gd_Trains_tryTrain_9 : decode gb_Trains_tryTrain 9 = .ok (.lload_n 3, 1) := by decide +kernel
theorem gd_Trains_tryTrain_10 : decode gb_Trains_tryTrain 10 = .ok (.invokestatic 72, 3) := by decide +kernel
theorem gd_Trains_tryTrain_13 : decode gb_Trains_tryTrain 13 = .ok (.aload_n 0, 1) := by decide +kernel
theorem gd_Trains_tryTrain_14 : decode gb_Trains_tryTrain 14 = .ok (.getfield 26, 3) := by decide +kernel
theorem gd_Trains_tryTrain_17 : decode gb_Trains_tryTrain 17 = .ok (.lmul, 1) := by decide +kernel
theorem gd_Trains_tryTrain_18 : decode gb_Trains_tryTrain 18 = .ok (.lsub, 1) := by decide +kernel
theorem gd_Trains_tryTrain_19 : decode gb_Trains_tryTrain 19 = .ok (.invokestatic 132, 3) := by decide +kernel
theorem gd_Trains_tryTrain_22 : decode gb_Trains_tryTrain 22 = .ok (.lstore 5, 2) := by decide +kernel
theorem gd_Trains_tryTrain_24 : decode gb_Trains_tryTrain 24 = .ok (.aload_n 0, 1) := by decide +kernel
theorem gd_Trains_tryTrain_25 : decode gb_Trains_tryTrain 25 = .ok (.getfield 65, 3) := by decide +kernel
theorem gd_Trains_tryTrain_28 : decode gb_Trains_tryTrain 28 = .ok (.lconst 0, 1) := by decide +kernel
theorem gd_Trains_tryTrain_29 : decode gb_Trains_tryTrain 29 = .ok (.lcmp, 1) := by decide +kernel
theorem gd_Trains_tryTrain_30 : decode gb_Trains_tryTrain 30 = .ok (.ifCond .eq 14, 3) := by decide +kernel
theorem gd_Trains_tryTrain_33 : decode gb_Trains_tryTrain 33 = .ok (.aload_n 0, 1) := by decide +kernel
theorem gd_Trains_tryTrain_34 : decode gb_Trains_tryTrain 34 = .ok (.lload_n 1, 1) := by decide +kernel
theorem gd_Trains_tryTrain_35 : decode gb_Trains_tryTrain 35 = .ok (.lload_n 3, 1) := by decide +kernel
theorem gd_Trains_tryTrain_36 : decode gb_Trains_tryTrain 36 = .ok (.lload 5, 2) := by decide +kernel
theorem gd_Trains_tryTrain_38 : decode gb_Trains_tryTrain 38 = .ok (.invokevirtual 135, 3) := by decide +kernel
theorem gd_Trains_tryTrain_41 : decode gb_Trains_tryTrain 41 = .ok (.ifCond .eq 19, 3) := by decide +kernel
theorem gd_Trains_tryTrain_44 : decode gb_Trains_tryTrain 44 = .ok (.aload_n 0, 1) := by decide +kernel
theorem gd_Trains_tryTrain_45 : decode gb_Trains_tryTrain 45 = .ok (.lload_n 1, 1) := by decide +kernel
theorem gd_Trains_tryTrain_46 : decode gb_Trains_tryTrain 46 = .ok (.putfield 62, 3) := by decide +kernel
theorem gd_Trains_tryTrain_49 : decode gb_Trains_tryTrain 49 = .ok (.aload_n 0, 1) := by decide +kernel
theorem gd_Trains_tryTrain_50 : decode gb_Trains_tryTrain 50 = .ok (.lload_n 3, 1) := by decide +kernel
theorem gd_Trains_tryTrain_51 : decode gb_Trains_tryTrain 51 = .ok (.putfield 65, 3) := by decide +kernel
theorem gd_Trains_tryTrain_54 : decode gb_Trains_tryTrain 54 = .ok (.aload_n 0, 1) := by decide +kernel
theorem gd_Trains_tryTrain_55 : decode gb_Trains_tryTrain 55 = .ok (.lload 5, 2) := by decide +kernel
theorem gd_Trains_tryTrain_57 : decode gb_Trains_tryTrain 57 = .ok (.putfield 76, 3) := by decide +kernel
theorem gd_Trains_tryTrain_60 : decode gb_Trains_tryTrain 60 = .ok (.return_, 1) := by decide +kernel
def gf_Trains_tryTrain_b60 (F : Nat) (z : gw_Sh)  (u : gw_St)  : Option gw_St :=
  some u
def gf_Trains_tryTrain_b44 (F : Nat) (z : gw_Sh)  (u : gw_St) (t0 : Nat) (y1 : Int64) (y3 : Int64) (y5 : Int64) : Option gw_St :=
  gf_nm (gw_wl u t0 14 y1) fun u1 => gf_nm (gw_wl u1 t0 15 y3) fun u3 => gf_nm (gw_wl u3 t0 16 y5) fun u5 => gf_Trains_tryTrain_b60 F z  u5 
def gf_Trains_tryTrain_b0 (F : Nat) (z : gw_Sh)  (u : gw_St) (t0 : Nat) (y1 : Int64) (y3 : Int64) : Option gw_St :=
  gf_cl (gf_Trains_product F z u y1) fun a9 u7 => gf_cl (gf_Trains_product F z u7 y3) fun a12 u10 => gf_nm (if 0 < ((a9 * (u7.2.1 t0 5)) - (a12 * (u10.2.1 t0 4))) then ((a9 * (u7.2.1 t0 5)) - (a12 * (u10.2.1 t0 4))) else -((a9 * (u7.2.1 t0 5)) - (a12 * (u10.2.1 t0 4)))) fun a13 => if (lg_cmp (u10.2.1 t0 15) (0 : Int64)) = 0 then (gf_Trains_tryTrain_b44 F z  u10 t0 y1 y3 a13) else (gf_cl (gf_Trains_isBetter F z u10 t0 y1 y3 a13) fun a18 u16 => if a18 = 0 then (gf_Trains_tryTrain_b60 F z  u16 ) else (gf_Trains_tryTrain_b44 F z  u16 t0 y1 y3 a13))
def gf_Trains_tryTrain (F : Nat) (z : gw_Sh) (u : gw_St) (t0 : Nat) (y1 : Int64) (y3 : Int64) : Option gw_St := gf_Trains_tryTrain_b0 F z  u t0 y1 y3
set_option maxHeartbeats 4000000 in
set_option maxRecDepth 20000 in
theorem gx_Trains_tryTrain_b60 {p : Program} {l : Launch} {e : Env} {s : State} {m : MethodId} {args : Array Value} {below : List Frame} {meth : Method} {c : Code} {D : va_G} {cA : Nat → ClassId} {hs : Nat → Nat} {z : gw_Sh} (F : Nat) {r0 : gw_St} (C : gw_Cx p s m args c gb_Trains_tryTrain 7 R_Trains D cA) (hr : meth.sig.returnType = none) (hk : meth.locks = false) (u : gw_St)   {H : Heap} {locs : List Loc} {ls : Array Slot} (hW : gw_Wx D cA hs z s u H locs) (hl : lv_has ls 7 []) (h : gf_Trains_tryTrain_b60 F z   u  = some r0) : gw_Gv p l e gr_Trains_tryTrain s m args below meth c D cA hs z r0 H locs ls 60 [] := by
  obtain ⟨hx, hb, hml, hown, hts, hK⟩ := id C
  unfold gf_Trains_tryTrain_b60 at h
  obtain rfl := Option.some.inj h
  exact gw_vret C hW hr hk gd_Trains_tryTrain_60

set_option maxHeartbeats 4000000 in
set_option maxRecDepth 20000 in
theorem gx_Trains_tryTrain_b44 {p : Program} {l : Launch} {e : Env} {s : State} {m : MethodId} {args : Array Value} {below : List Frame} {meth : Method} {c : Code} {D : va_G} {cA : Nat → ClassId} {hs : Nat → Nat} {z : gw_Sh} (F : Nat) {r0 : gw_St} (C : gw_Cx p s m args c gb_Trains_tryTrain 7 R_Trains D cA) (hr : meth.sig.returnType = none) (hk : meth.locks = false) (u : gw_St) (t0 : Nat) (y1 : Int64) (y3 : Int64) (y5 : Int64) (o_t0 : gw_ok z t0 1) {H : Heap} {locs : List Loc} {ls : Array Slot} (hW : gw_Wx D cA hs z s u H locs) (hl : lv_has ls 7 [(0, .ref (hs t0)), (1, .long y1), (3, .long y3), (5, .long y5)]) (h : gf_Trains_tryTrain_b44 F z   u t0 y1 y3 y5 = some r0) : gw_Gv p l e gr_Trains_tryTrain s m args below meth c D cA hs z r0 H locs ls 44 [] := by
  obtain ⟨hx, hb, hml, hown, hts, hK⟩ := id C
  unfold gf_Trains_tryTrain_b44 at h
  refine lv_aload_n hx hb gd_Trains_tryTrain_44 rfl (lv_at hl 0 rfl) ?_
  refine lv_lload_n hx hb gd_Trains_tryTrain_45 rfl (lv_at hl 1 rfl) ?_
  refine gw_putl (k := 14) (ref := R_Trains) C hW o_t0 (by decide) rfl gi_Trains rfl (by decide) rfl rfl gk_193 tf_Trains tf_Trains_ok nm_Trains rfl rfl gd_Trains_tryTrain_46 (fun u1 H locs e2 hW => ?_)
  have h := gf_nm_ok e2 h
  refine lv_aload_n hx hb gd_Trains_tryTrain_49 rfl (lv_at hl 0 rfl) ?_
  refine lv_lload_n hx hb gd_Trains_tryTrain_50 rfl (lv_at hl 2 rfl) ?_
  refine gw_putl (k := 15) (ref := R_Trains) C hW o_t0 (by decide) rfl gi_Trains rfl (by decide) rfl rfl gk_183 tf_Trains tf_Trains_ok nm_Trains rfl rfl gd_Trains_tryTrain_51 (fun u3 H locs e4 hW => ?_)
  have h := gf_nm_ok e4 h
  refine lv_aload_n hx hb gd_Trains_tryTrain_54 rfl (lv_at hl 0 rfl) ?_
  refine lv_lload hx hb gd_Trains_tryTrain_55 (lv_at hl 3 rfl) ?_
  refine gw_putl (k := 16) (ref := R_Trains) C hW o_t0 (by decide) rfl gi_Trains rfl (by decide) rfl rfl gk_194 tf_Trains tf_Trains_ok nm_Trains rfl rfl gd_Trains_tryTrain_57 (fun u5 H locs e6 hW => ?_)
  have h := gf_nm_ok e6 h
  exact gx_Trains_tryTrain_b60 F C hr hk  u5   hW (lv_sub hl [] rfl) h

set_option maxHeartbeats 4000000 in
set_option maxRecDepth 20000 in
theorem gx_Trains_tryTrain_b0 {p : Program} {l : Launch} {e : Env} {s : State} {m : MethodId} {args : Array Value} {below : List Frame} {meth : Method} {c : Code} {D : va_G} {cA : Nat → ClassId} {hs : Nat → Nat} {z : gw_Sh} (F : Nat) {r0 : gw_St} (C : gw_Cx p s m args c gb_Trains_tryTrain 7 R_Trains D cA) (hr : meth.sig.returnType = none) (hk : meth.locks = false) (u : gw_St) (t0 : Nat) (y1 : Int64) (y3 : Int64) (o_t0 : gw_ok z t0 1) {H : Heap} {locs : List Loc} {ls : Array Slot} (hW : gw_Wx D cA hs z s u H locs) (hl : lv_has ls 7 [(0, .ref (hs t0)), (1, .long y1), (3, .long y3)]) (h : gf_Trains_tryTrain_b0 F z   u t0 y1 y3 = some r0) : gw_Gv p l e gr_Trains_tryTrain s m args below meth c D cA hs z r0 H locs ls 0 [] := by
  obtain ⟨hx, hb, hml, hown, hts, hK⟩ := id C
  unfold gf_Trains_tryTrain_b0 at h
  refine lv_lload_n hx hb gd_Trains_tryTrain_0 rfl (lv_at hl 1 rfl) ?_
  obtain ⟨a9, u7, d8, h⟩ := gf_cl_ok h
  refine gw_callSl (As := [.long y1]) (rest := []) C hW (fun _ h => Or.inr h) hl.1 gm_Trains_product (gc_Trains_product l F  d8 _) gk_163 gk_164 rfl rfl ⟨Nat.le_of_ble_eq_true rfl, Nat.le_of_ble_eq_true rfl⟩ ⟨Nat.zero_le _, Nat.zero_le _⟩ rfl rfl (Nat.le_of_ble_eq_true rfl) gd_Trains_tryTrain_1 (fun H locs hW => ?_)
  refine lv_aload_n hx hb gd_Trains_tryTrain_4 rfl (lv_at hl 0 rfl) ?_
  refine gw_getl (k := 5) (ref := R_Trains) C hW o_t0 (by decide) rfl gi_Trains rfl (by decide) rfl rfl gk_139 gd_Trains_tryTrain_5 ?_
  refine lv_lmul hx hb gd_Trains_tryTrain_8 ?_
  refine lv_lload_n hx hb gd_Trains_tryTrain_9 rfl (lv_at hl 2 rfl) ?_
  obtain ⟨a12, u10, d11, h⟩ := gf_cl_ok h
  refine gw_callSl (As := [.long y3]) (rest := [.long (a9 * (u7.2.1 t0 5))]) C hW (fun _ h => Or.inr h) hl.1 gm_Trains_product (gc_Trains_product l F  d11 _) gk_163 gk_164 rfl rfl ⟨Nat.le_of_ble_eq_true rfl, Nat.le_of_ble_eq_true rfl⟩ ⟨Nat.zero_le _, Nat.zero_le _⟩ rfl rfl (Nat.le_of_ble_eq_true rfl) gd_Trains_tryTrain_10 (fun H locs hW => ?_)
  refine lv_aload_n hx hb gd_Trains_tryTrain_13 rfl (lv_at hl 0 rfl) ?_
  refine gw_getl (k := 4) (ref := R_Trains) C hW o_t0 (by decide) rfl gi_Trains rfl (by decide) rfl rfl gk_138 gd_Trains_tryTrain_14 ?_
  refine lv_lmul hx hb gd_Trains_tryTrain_17 ?_
  refine lv_lsub hx hb gd_Trains_tryTrain_18 ?_
  refine va_mabs_long hx hb (hml.trans hl.1.symm) hown (hts _ gk_198) (hts _ gk_25) (hts _ gk_26) (hts _ gk_27) (Nat.le_of_ble_eq_true rfl) (Nat.le_of_ble_eq_true rfl) (Nat.zero_le _) (Nat.zero_le _) gd_Trains_tryTrain_19 ?_
  refine lv_topl (fun a13 e14 => ?_)
  have h := gf_nm_ok e14 h
  refine lv_lstore (lv' := [(5, .long a13), (0, .ref (hs t0)), (1, .long y1), (3, .long y3)]) hx hb gd_Trains_tryTrain_22 hl (by decide) rfl (fun ls hl => ?_)
  refine lv_aload_n hx hb gd_Trains_tryTrain_24 rfl (lv_at hl 1 rfl) ?_
  refine gw_getl (k := 15) (ref := R_Trains) C hW o_t0 (by decide) rfl gi_Trains rfl (by decide) rfl rfl gk_183 gd_Trains_tryTrain_25 ?_
  refine lv_lconst (v := 0) hx hb gd_Trains_tryTrain_28 (by decide) ?_
  refine W.lcmp hx hb gd_Trains_tryTrain_29 ?_
  refine lv_if_eq (tgt := 44) hx hb gd_Trains_tryTrain_30 (by decide) (fun c15 => ?_) (fun c15 => ?_)
  · have h := gf_t c15 h
    exact gx_Trains_tryTrain_b44 F C hr hk  u10 t0 y1 y3 a13 o_t0 hW (lv_sub hl [1, 2, 3, 0] rfl) h
  · have h := gf_f c15 h
    refine lv_aload_n hx hb gd_Trains_tryTrain_33 rfl (lv_at hl 1 rfl) ?_
    refine lv_lload_n hx hb gd_Trains_tryTrain_34 rfl (lv_at hl 2 rfl) ?_
    refine lv_lload_n hx hb gd_Trains_tryTrain_35 rfl (lv_at hl 3 rfl) ?_
    refine lv_lload hx hb gd_Trains_tryTrain_36 (lv_at hl 0 rfl) ?_
    obtain ⟨a18, u16, d17, h⟩ := gf_cl_ok h
    refine gw_callVi (K := R_Trains) (As := [.long y1, .long y3, .long a13]) (rest := []) C hW (fun _ h => Or.inr h) hl.1 gm_Trains_isBetter (gc_Trains_isBetter l F o_t0 d17 _) gk_199 gk_200 gk_201 o_t0 (by decide) rfl rfl rfl ⟨Nat.le_of_ble_eq_true rfl, Nat.le_of_ble_eq_true rfl⟩ ⟨Nat.zero_le _, Nat.zero_le _⟩ rfl rfl (Nat.le_of_ble_eq_true rfl) gd_Trains_tryTrain_38 (fun H locs hW => ?_)
    refine lv_if_eq (tgt := 60) hx hb gd_Trains_tryTrain_41 (by decide) (fun c19 => ?_) (fun c19 => ?_)
    · have h := gf_t c19 h
      exact gx_Trains_tryTrain_b60 F C hr hk  u16   hW (lv_sub hl [] rfl) h
    · have h := gf_f c19 h
      exact gx_Trains_tryTrain_b44 F C hr hk  u16 t0 y1 y3 a13 o_t0 hW (lv_sub hl [1, 2, 3, 0] rfl) h

set_option maxRecDepth 20000 in
theorem gc_Trains_tryTrain (l : Launch) {D : va_G} {cA : Nat → ClassId} {hs : Nat → Nat} {z : gw_Sh} (F : Nat) {u : gw_St} {r0 : gw_St} {t0 : Nat} {y1 : Int64} {y3 : Int64} (o_t0 : gw_ok z t0 1) (h : gf_Trains_tryTrain F z u t0 y1 y3 = some r0) (sz : Nat) : gw_Mv l gy_Trains_tryTrain gb_Trains_tryTrain 7 none gr_Trains_tryTrain [.ref (hs t0), .long y1, .long y3] D cA hs z u sz r0 := by
  refine gw_enter (by decide) (Nat.le_of_ble_eq_true rfl) ?_
  intro p e s m below meth c ls hsz C hW hr hk _ hl
  subst hsz
  exact gx_Trains_tryTrain_b0 F C hr hk u t0 y1 y3 o_t0 hW (lv_sub hl [0, 1, 2] rfl) h
-- GearDesk$Trains.tryDrivers(J)V
theorem gk_203 : Cond.methodLink R_Trains 128 gy_Trains_tryTrain ∈ gt_T := gt_m4 (List.mem_of_getElem? (i := 114) rfl) rfl
theorem gk_204 : Cond.instanceMethod gy_Trains_tryTrain ∈ gt_T := gt_m4 (List.mem_of_getElem? (i := 116) rfl) rfl
theorem gk_205 : Cond.selects R_Trains gy_Trains_tryTrain gy_Trains_tryTrain ∈ gt_T := gt_p1 (List.mem_of_getElem? (i := 12) rfl) rfl
theorem gk_206 : Cond.methodLink R_Trains 124 gy_Trains_isBelow ∈ gt_T := gt_m4 (List.mem_of_getElem? (i := 110) rfl) rfl
theorem gk_207 : Cond.instanceMethod gy_Trains_isBelow ∈ gt_T := gt_m4 (List.mem_of_getElem? (i := 112) rfl) rfl
theorem gk_208 : Cond.selects R_Trains gy_Trains_isBelow gy_Trains_isBelow ∈ gt_T := gt_p1 (List.mem_of_getElem? (i := 11) rfl) rfl
def gy_Trains_tryDrivers : MethodName := ⟨R_Trains, "tryDrivers", "(J)V"⟩
abbrev gb_Trains_tryDrivers : ByteArray := prog_7_method_15_code
theorem gk_209 : Cond.code gy_Trains_tryDrivers gb_Trains_tryDrivers 6 none ∈ gt_T := gt_m4 (List.mem_of_getElem? (i := 109) rfl) rfl
def gr_Trains_tryDrivers : Room := gw_rm 5 169
theorem gm_Trains_tryDrivers : gw_Mth gy_Trains_tryDrivers gb_Trains_tryDrivers 6 none 1 := ⟨gk_209, gk_131, ⟨by decide +kernel, by decide +kernel⟩, by decide +kernel⟩
theorem gd_Trains_tryDrivers_0 : decode gb_Trains_tryDrivers 0 = .ok (.lload_n 1, 1) := by decide +kernel
theorem gd_Trains_tryDrivers_1 : decode gb_Trains_tryDrivers 1 = .ok (.invokestatic 72, 3) := by decide +kernel
theorem gd_Trains_tryDrivers_4 : decode gb_Trains_tryDrivers 4 = .ok (.aload_n 0, 1) := by decide +kernel
theorem gd_Trains_tryDrivers_5 : decode gb_Trains_tryDrivers 5 = .ok (.getfield 30, 3) := by decide +kernel
theorem gd_Trains_tryDrivers_8 : decode gb_Trains_tryDrivers 8 = .ok (.lmul, 1) := by decide +kernel
theorem gd_Trains_tryDrivers_9 : decode gb_Trains_tryDrivers 9 = .ok (.lstore_n 3, 1) := by decide +kernel
theorem gd_Trains_tryDrivers_10 : decode gb_Trains_tryDrivers 10 = .ok (.iconst 0, 1) := by decide +kernel
theorem gd_Trains_tryDrivers_11 : decode gb_Trains_tryDrivers 11 = .ok (.istore 5, 2) := by decide +kernel
theorem gd_Trains_tryDrivers_13 : decode gb_Trains_tryDrivers 13 = .ok (.iload 5, 2) := by decide +kernel
theorem gd_Trains_tryDrivers_15 : decode gb_Trains_tryDrivers 15 = .ok (.aload_n 0, 1) := by decide +kernel
theorem gd_Trains_tryDrivers_16 : decode gb_Trains_tryDrivers 16 = .ok (.getfield 43, 3) := by decide +kernel
theorem gd_Trains_tryDrivers_19 : decode gb_Trains_tryDrivers 19 = .ok (.if_icmp .ge 33, 3) := by decide +kernel
theorem gd_Trains_tryDrivers_22 : decode gb_Trains_tryDrivers 22 = .ok (.aload_n 0, 1) := by decide +kernel
theorem gd_Trains_tryDrivers_23 : decode gb_Trains_tryDrivers 23 = .ok (.aload_n 0, 1) := by decide +kernel
theorem gd_Trains_tryDrivers_24 : decode gb_Trains_tryDrivers 24 = .ok (.getfield 117, 3) := by decide +kernel
theorem gd_Trains_tryDrivers_27 : decode gb_Trains_tryDrivers 27 = .ok (.lload_n 3, 1) := by decide +kernel
theorem gd_Trains_tryDrivers_28 : decode gb_Trains_tryDrivers 28 = .ok (.invokevirtual 124, 3) := by decide +kernel
theorem gd_Trains_tryDrivers_31 : decode gb_Trains_tryDrivers 31 = .ok (.ifCond .eq 21, 3) := by decide +kernel
theorem gd_Trains_tryDrivers_34 : decode gb_Trains_tryDrivers 34 = .ok (.aload_n 0, 1) := by decide +kernel
theorem gd_Trains_tryDrivers_35 : decode gb_Trains_tryDrivers 35 = .ok (.aload_n 0, 1) := by decide +kernel
theorem gd_Trains_tryDrivers_36 : decode gb_Trains_tryDrivers 36 = .ok (.getfield 117, 3) := by decide +kernel
theorem gd_Trains_tryDrivers_39 : decode gb_Trains_tryDrivers 39 = .ok (.putfield 89, 3) := by decide +kernel
theorem gd_Trains_tryDrivers_42 : decode gb_Trains_tryDrivers 42 = .ok (.aload_n 0, 1) := by decide +kernel
theorem gd_Trains_tryDrivers_43 : decode gb_Trains_tryDrivers 43 = .ok (.invokevirtual 95, 3) := by decide +kernel
theorem gd_Trains_tryDrivers_46 : decode gb_Trains_tryDrivers 46 = .ok (.iinc 5 1, 3) := by decide +kernel
theorem gd_Trains_tryDrivers_49 : decode gb_Trains_tryDrivers 49 = .ok (.goto (-36), 3) := by decide +kernel
theorem gd_Trains_tryDrivers_52 : decode gb_Trains_tryDrivers 52 = .ok (.aload_n 0, 1) := by decide +kernel
theorem gd_Trains_tryDrivers_53 : decode gb_Trains_tryDrivers 53 = .ok (.getfield 89, 3) := by decide +kernel
theorem gd_Trains_tryDrivers_56 : decode gb_Trains_tryDrivers 56 = .ok (.iconst (-1), 1) := by decide +kernel
theorem gd_Trains_tryDrivers_57 : decode gb_Trains_tryDrivers 57 = .ok (.if_icmp .eq 17, 3) := by decide +kernel
theorem gd_Trains_tryDrivers_60 : decode gb_Trains_tryDrivers 60 = .ok (.aload_n 0, 1) := by decide +kernel
theorem gd_Trains_tryDrivers_61 : decode gb_Trains_tryDrivers 61 = .ok (.lload_n 1, 1) := by decide +kernel
theorem gd_Trains_tryDrivers_62 : decode gb_Trains_tryDrivers 62 = .ok (.aload_n 0, 1) := by decide +kernel
theorem gd_Trains_tryDrivers_63 : decode gb_Trains_tryDrivers 63 = .ok (.getfield 12, 3) := by decide +kernel
theorem gd_Trains_tryDrivers_66 : decode gb_Trains_tryDrivers 66 = .ok (.aload_n 0, 1) := by decide +kernel
theorem gd_Trains_tryDrivers_67 : decode gb_Trains_tryDrivers 67 = .ok (.getfield 89, 3) := by decide +kernel
theorem gd_Trains_tryDrivers_70 : decode gb_Trains_tryDrivers 70 = .ok (.laload, 1) := by decide +kernel
theorem gd_Trains_tryDrivers_71 : decode gb_Trains_tryDrivers 71 = .ok (.invokevirtual 128, 3) := by decide +kernel
theorem gd_Trains_tryDrivers_74 : decode gb_Trains_tryDrivers 74 = .ok (.aload_n 0, 1) := by decide +kernel
theorem gd_Trains_tryDrivers_75 : decode gb_Trains_tryDrivers 75 = .ok (.getfield 117, 3) := by decide +kernel
theorem gd_Trains_tryDrivers_78 : decode gb_Trains_tryDrivers 78 = .ok (.iconst (-1), 1) := by decide +kernel
theorem gd_Trains_tryDrivers_79 : decode gb_Trains_tryDrivers 79 = .ok (.if_icmp .eq 17, 3) := by decide +kernel
theorem gd_Trains_tryDrivers_82 : decode gb_Trains_tryDrivers 82 = .ok (.aload_n 0, 1) := by decide +kernel
theorem gd_Trains_tryDrivers_83 : decode gb_Trains_tryDrivers 83 = .ok (.lload_n 1, 1) := by decide +kernel
theorem gd_Trains_tryDrivers_84 : decode gb_Trains_tryDrivers 84 = .ok (.aload_n 0, 1) := by decide +kernel
theorem gd_Trains_tryDrivers_85 : decode gb_Trains_tryDrivers 85 = .ok (.getfield 12, 3) := by decide +kernel
theorem gd_Trains_tryDrivers_88 : decode gb_Trains_tryDrivers 88 = .ok (.aload_n 0, 1) := by decide +kernel
theorem gd_Trains_tryDrivers_89 : decode gb_Trains_tryDrivers 89 = .ok (.getfield 117, 3) := by decide +kernel
theorem gd_Trains_tryDrivers_92 : decode gb_Trains_tryDrivers 92 = .ok (.laload, 1) := by decide +kernel
theorem gd_Trains_tryDrivers_93 : decode gb_Trains_tryDrivers 93 = .ok (.invokevirtual 128, 3) := by decide +kernel
theorem gd_Trains_tryDrivers_96 : decode gb_Trains_tryDrivers 96 = .ok (.return_, 1) := by decide +kernel
def gf_Trains_tryDrivers_b96 (F : Nat) (z : gw_Sh)  (u : gw_St)  : Option gw_St :=
  some u
def gf_Trains_tryDrivers_b74 (F : Nat) (z : gw_Sh)  (u : gw_St) (t0 : Nat) (y1 : Int64) : Option gw_St :=
  if (u.1 t0 12) = (-1 : Int32) then (gf_Trains_tryDrivers_b96 F z  u ) else (gf_nn (u.2.2 t0 0) fun q2 => if ((u.1 t0 12) < 0 ∨ z.2.2 q2 ≤ ((u.1 t0 12)).toNatClampNeg) then none else (gf_Trains_tryTrain F z u t0 y1 (u.2.1 q2 ((u.1 t0 12)).toNatClampNeg)).bind fun u5 => gf_Trains_tryDrivers_b96 F z  u5 )
def gf_Trains_tryDrivers_b52 (F : Nat) (z : gw_Sh)  (u : gw_St) (t0 : Nat) (y1 : Int64) : Option gw_St :=
  if (u.1 t0 11) = (-1 : Int32) then (gf_Trains_tryDrivers_b74 F z  u t0 y1) else (gf_nn (u.2.2 t0 0) fun q8 => if ((u.1 t0 11) < 0 ∨ z.2.2 q8 ≤ ((u.1 t0 11)).toNatClampNeg) then none else (gf_Trains_tryTrain F z u t0 y1 (u.2.1 q8 ((u.1 t0 11)).toNatClampNeg)).bind fun u11 => gf_Trains_tryDrivers_b74 F z  u11 t0 y1)
def gf_Trains_tryDrivers_S13 (F : Nat) (z : gw_Sh)  (rc_13 : gw_St → Nat → Int64 → Int64 → Int32 → Option gw_St) (u : gw_St) (t0 : Nat) (y1 : Int64) (y3 : Int64) (x5 : Int32) : Option gw_St :=
  if (u.1 t0 9) ≤ x5 then (gf_Trains_tryDrivers_b52 F z  u t0 y1) else (gf_cl (gf_Trains_isBelow F z u t0 (u.1 t0 12) y3) fun a16 u14 => if a16 = 0 then (gf_Trains_tryDrivers_b52 F z  u14 t0 y1) else (gf_nm (gw_wi u14 t0 11 (u14.1 t0 12)) fun u18 => (gf_Trains_takeGroup F z u18 t0).bind fun u20 => gf_nm (x5 + 1) fun a22 => rc_13 u20 t0 y1 y3 a22))
def gf_Trains_tryDrivers_L13 (F : Nat) (z : gw_Sh)  : Nat → gw_St → Nat → Int64 → Int64 → Int32 → Option gw_St
  | 0 => fun _ _ _ _ _ => none
  | n + 1 => fun u t0 y1 y3 x5 => gf_Trains_tryDrivers_S13 F z  (gf_Trains_tryDrivers_L13 F z  n) u t0 y1 y3 x5
def gf_Trains_tryDrivers_b0 (F : Nat) (z : gw_Sh)  (u : gw_St) (t0 : Nat) (y1 : Int64) : Option gw_St :=
  gf_cl (gf_Trains_product F z u y1) fun a26 u24 => gf_nm (a26 * (u24.2.1 t0 5)) fun a27 => gf_Trains_tryDrivers_L13 F z  F u24 t0 y1 a27 0
def gf_Trains_tryDrivers (F : Nat) (z : gw_Sh) (u : gw_St) (t0 : Nat) (y1 : Int64) : Option gw_St := gf_Trains_tryDrivers_b0 F z  u t0 y1
set_option maxHeartbeats 4000000 in
set_option maxRecDepth 20000 in
theorem gx_Trains_tryDrivers_b96 {p : Program} {l : Launch} {e : Env} {s : State} {m : MethodId} {args : Array Value} {below : List Frame} {meth : Method} {c : Code} {D : va_G} {cA : Nat → ClassId} {hs : Nat → Nat} {z : gw_Sh} (F : Nat) {r0 : gw_St} (C : gw_Cx p s m args c gb_Trains_tryDrivers 6 R_Trains D cA) (hr : meth.sig.returnType = none) (hk : meth.locks = false) (u : gw_St)   {H : Heap} {locs : List Loc} {ls : Array Slot} (hW : gw_Wx D cA hs z s u H locs) (hl : lv_has ls 6 []) (h : gf_Trains_tryDrivers_b96 F z   u  = some r0) : gw_Gv p l e gr_Trains_tryDrivers s m args below meth c D cA hs z r0 H locs ls 96 [] := by
  obtain ⟨hx, hb, hml, hown, hts, hK⟩ := id C
  unfold gf_Trains_tryDrivers_b96 at h
  obtain rfl := Option.some.inj h
  exact gw_vret C hW hr hk gd_Trains_tryDrivers_96

set_option maxHeartbeats 4000000 in
set_option maxRecDepth 20000 in
theorem gx_Trains_tryDrivers_b74 {p : Program} {l : Launch} {e : Env} {s : State} {m : MethodId} {args : Array Value} {below : List Frame} {meth : Method} {c : Code} {D : va_G} {cA : Nat → ClassId} {hs : Nat → Nat} {z : gw_Sh} (F : Nat) {r0 : gw_St} (C : gw_Cx p s m args c gb_Trains_tryDrivers 6 R_Trains D cA) (hr : meth.sig.returnType = none) (hk : meth.locks = false) (u : gw_St) (t0 : Nat) (y1 : Int64) (o_t0 : gw_ok z t0 1) {H : Heap} {locs : List Loc} {ls : Array Slot} (hW : gw_Wx D cA hs z s u H locs) (hl : lv_has ls 6 [(0, .ref (hs t0)), (1, .long y1)]) (h : gf_Trains_tryDrivers_b74 F z   u t0 y1 = some r0) : gw_Gv p l e gr_Trains_tryDrivers s m args below meth c D cA hs z r0 H locs ls 74 [] := by
  obtain ⟨hx, hb, hml, hown, hts, hK⟩ := id C
  unfold gf_Trains_tryDrivers_b74 at h
  refine lv_aload_n hx hb gd_Trains_tryDrivers_74 rfl (lv_at hl 0 rfl) ?_
  refine gw_geti (k := 12) (ref := R_Trains) C hW o_t0 (by decide) rfl gi_Trains rfl (by decide) rfl rfl gk_175 gd_Trains_tryDrivers_75 ?_
  refine lv_iconst (v := (-1)) hx hb gd_Trains_tryDrivers_78 (by decide) ?_
  refine lv_icmp_eq (tgt := 96) hx hb gd_Trains_tryDrivers_79 (by decide) (fun c1 => ?_) (fun c1 => ?_)
  · have h := gf_t c1 h
    exact gx_Trains_tryDrivers_b96 F C hr hk  u   hW (lv_sub hl [] rfl) h
  · have h := gf_f c1 h
    refine lv_aload_n hx hb gd_Trains_tryDrivers_82 rfl (lv_at hl 0 rfl) ?_
    refine lv_lload_n hx hb gd_Trains_tryDrivers_83 rfl (lv_at hl 1 rfl) ?_
    refine lv_aload_n hx hb gd_Trains_tryDrivers_84 rfl (lv_at hl 0 rfl) ?_
    obtain ⟨q2, e3, h⟩ := gf_nn_ok h
    refine gw_getr (k := 0) (ty := 11) (ref := R_Trains) C hW o_t0 (by decide) rfl gi_Trains rfl (by decide) rfl rfl gk_146 gd_Trains_tryDrivers_85 e3 ?_
    have o_q2 := hW.ref (d := 11) o_t0 e3 rfl
    refine lv_aload_n hx hb gd_Trains_tryDrivers_88 rfl (lv_at hl 0 rfl) ?_
    refine gw_geti (k := 12) (ref := R_Trains) C hW o_t0 (by decide) rfl gi_Trains rfl (by decide) rfl rfl gk_175 gd_Trains_tryDrivers_89 ?_
    obtain ⟨g4, h⟩ := gf_if_ok h
    refine gw_lald C hW o_q2 g4 gd_Trains_tryDrivers_92 ?_
    obtain ⟨u5, d6, h⟩ := gf_bd_ok h
    refine gw_callVv (K := R_Trains) (As := [.long y1, .long (u.2.1 q2 ((u.1 t0 12)).toNatClampNeg)]) (rest := []) C hW (fun _ h => Or.inr h) hl.1 gm_Trains_tryTrain (gc_Trains_tryTrain l F o_t0 d6 _) gk_203 gk_204 gk_205 o_t0 (by decide) rfl rfl rfl ⟨Nat.le_of_ble_eq_true rfl, Nat.le_of_ble_eq_true rfl⟩ ⟨Nat.zero_le _, Nat.zero_le _⟩ rfl rfl (Nat.le_of_ble_eq_true rfl) gd_Trains_tryDrivers_93 (fun H locs hW => ?_)
    exact gx_Trains_tryDrivers_b96 F C hr hk  u5   hW (lv_sub hl [] rfl) h

set_option maxHeartbeats 4000000 in
set_option maxRecDepth 20000 in
theorem gx_Trains_tryDrivers_b52 {p : Program} {l : Launch} {e : Env} {s : State} {m : MethodId} {args : Array Value} {below : List Frame} {meth : Method} {c : Code} {D : va_G} {cA : Nat → ClassId} {hs : Nat → Nat} {z : gw_Sh} (F : Nat) {r0 : gw_St} (C : gw_Cx p s m args c gb_Trains_tryDrivers 6 R_Trains D cA) (hr : meth.sig.returnType = none) (hk : meth.locks = false) (u : gw_St) (t0 : Nat) (y1 : Int64) (o_t0 : gw_ok z t0 1) {H : Heap} {locs : List Loc} {ls : Array Slot} (hW : gw_Wx D cA hs z s u H locs) (hl : lv_has ls 6 [(0, .ref (hs t0)), (1, .long y1)]) (h : gf_Trains_tryDrivers_b52 F z   u t0 y1 = some r0) : gw_Gv p l e gr_Trains_tryDrivers s m args below meth c D cA hs z r0 H locs ls 52 [] := by
  obtain ⟨hx, hb, hml, hown, hts, hK⟩ := id C
  unfold gf_Trains_tryDrivers_b52 at h
  refine lv_aload_n hx hb gd_Trains_tryDrivers_52 rfl (lv_at hl 0 rfl) ?_
  refine gw_geti (k := 11) (ref := R_Trains) C hW o_t0 (by decide) rfl gi_Trains rfl (by decide) rfl rfl gk_184 gd_Trains_tryDrivers_53 ?_
  refine lv_iconst (v := (-1)) hx hb gd_Trains_tryDrivers_56 (by decide) ?_
  refine lv_icmp_eq (tgt := 74) hx hb gd_Trains_tryDrivers_57 (by decide) (fun c7 => ?_) (fun c7 => ?_)
  · have h := gf_t c7 h
    exact gx_Trains_tryDrivers_b74 F C hr hk  u t0 y1 o_t0 hW (lv_sub hl [0, 1] rfl) h
  · have h := gf_f c7 h
    refine lv_aload_n hx hb gd_Trains_tryDrivers_60 rfl (lv_at hl 0 rfl) ?_
    refine lv_lload_n hx hb gd_Trains_tryDrivers_61 rfl (lv_at hl 1 rfl) ?_
    refine lv_aload_n hx hb gd_Trains_tryDrivers_62 rfl (lv_at hl 0 rfl) ?_
    obtain ⟨q8, e9, h⟩ := gf_nn_ok h
    refine gw_getr (k := 0) (ty := 11) (ref := R_Trains) C hW o_t0 (by decide) rfl gi_Trains rfl (by decide) rfl rfl gk_146 gd_Trains_tryDrivers_63 e9 ?_
    have o_q8 := hW.ref (d := 11) o_t0 e9 rfl
    refine lv_aload_n hx hb gd_Trains_tryDrivers_66 rfl (lv_at hl 0 rfl) ?_
    refine gw_geti (k := 11) (ref := R_Trains) C hW o_t0 (by decide) rfl gi_Trains rfl (by decide) rfl rfl gk_184 gd_Trains_tryDrivers_67 ?_
    obtain ⟨g10, h⟩ := gf_if_ok h
    refine gw_lald C hW o_q8 g10 gd_Trains_tryDrivers_70 ?_
    obtain ⟨u11, d12, h⟩ := gf_bd_ok h
    refine gw_callVv (K := R_Trains) (As := [.long y1, .long (u.2.1 q8 ((u.1 t0 11)).toNatClampNeg)]) (rest := []) C hW (fun _ h => Or.inr h) hl.1 gm_Trains_tryTrain (gc_Trains_tryTrain l F o_t0 d12 _) gk_203 gk_204 gk_205 o_t0 (by decide) rfl rfl rfl ⟨Nat.le_of_ble_eq_true rfl, Nat.le_of_ble_eq_true rfl⟩ ⟨Nat.zero_le _, Nat.zero_le _⟩ rfl rfl (Nat.le_of_ble_eq_true rfl) gd_Trains_tryDrivers_71 (fun H locs hW => ?_)
    exact gx_Trains_tryDrivers_b74 F C hr hk  u11 t0 y1 o_t0 hW (lv_sub hl [0, 1] rfl) h

set_option maxHeartbeats 4000000 in
set_option maxRecDepth 20000 in
theorem gx_Trains_tryDrivers_S13 {p : Program} {l : Launch} {e : Env} {s : State} {m : MethodId} {args : Array Value} {below : List Frame} {meth : Method} {c : Code} {D : va_G} {cA : Nat → ClassId} {hs : Nat → Nat} {z : gw_Sh} (F : Nat) {r0 : gw_St} (C : gw_Cx p s m args c gb_Trains_tryDrivers 6 R_Trains D cA) (hr : meth.sig.returnType = none) (hk : meth.locks = false) {rc_13 : gw_St → Nat → Int64 → Int64 → Int32 → Option gw_St} (k_13 : ∀ (u : gw_St) (t0 : Nat) (y1 : Int64) (y3 : Int64) (x5 : Int32) (H : Heap) (locs : List Loc) (ls : Array Slot), gw_ok z t0 1 → gw_Wx D cA hs z s u H locs → lv_has ls 6 [(0, .ref (hs t0)), (1, .long y1), (3, .long y3), (5, .int x5)] → rc_13 u t0 y1 y3 x5 = some r0 → gw_Gv p l e gr_Trains_tryDrivers s m args below meth c D cA hs z r0 H locs ls 13 []) (u : gw_St) (t0 : Nat) (y1 : Int64) (y3 : Int64) (x5 : Int32) (o_t0 : gw_ok z t0 1) {H : Heap} {locs : List Loc} {ls : Array Slot} (hW : gw_Wx D cA hs z s u H locs) (hl : lv_has ls 6 [(0, .ref (hs t0)), (1, .long y1), (3, .long y3), (5, .int x5)]) (h : gf_Trains_tryDrivers_S13 F z  rc_13 u t0 y1 y3 x5 = some r0) : gw_Gv p l e gr_Trains_tryDrivers s m args below meth c D cA hs z r0 H locs ls 13 [] := by
  obtain ⟨hx, hb, hml, hown, hts, hK⟩ := id C
  unfold gf_Trains_tryDrivers_S13 at h
  refine lv_iload hx hb gd_Trains_tryDrivers_13 (lv_at hl 3 rfl) ?_
  refine lv_aload_n hx hb gd_Trains_tryDrivers_15 rfl (lv_at hl 0 rfl) ?_
  refine gw_geti (k := 9) (ref := R_Trains) C hW o_t0 (by decide) rfl gi_Trains rfl (by decide) rfl rfl gk_135 gd_Trains_tryDrivers_16 ?_
  refine lv_icmp_ge (tgt := 52) hx hb gd_Trains_tryDrivers_19 (by decide) (fun c13 => ?_) (fun c13 => ?_)
  · have h := gf_t c13 h
    exact gx_Trains_tryDrivers_b52 F C hr hk  u t0 y1 o_t0 hW (lv_sub hl [0, 1] rfl) h
  · have h := gf_f c13 h
    refine lv_aload_n hx hb gd_Trains_tryDrivers_22 rfl (lv_at hl 0 rfl) ?_
    refine lv_aload_n hx hb gd_Trains_tryDrivers_23 rfl (lv_at hl 0 rfl) ?_
    refine gw_geti (k := 12) (ref := R_Trains) C hW o_t0 (by decide) rfl gi_Trains rfl (by decide) rfl rfl gk_175 gd_Trains_tryDrivers_24 ?_
    refine lv_lload_n hx hb gd_Trains_tryDrivers_27 rfl (lv_at hl 2 rfl) ?_
    obtain ⟨a16, u14, d15, h⟩ := gf_cl_ok h
    refine gw_callVi (K := R_Trains) (As := [.int (u.1 t0 12), .long y3]) (rest := []) C hW (fun _ h => Or.inr h) hl.1 gm_Trains_isBelow (gc_Trains_isBelow l F o_t0 d15 _) gk_206 gk_207 gk_208 o_t0 (by decide) rfl rfl rfl ⟨Nat.le_of_ble_eq_true rfl, Nat.le_of_ble_eq_true rfl⟩ ⟨Nat.zero_le _, Nat.zero_le _⟩ rfl rfl (Nat.le_of_ble_eq_true rfl) gd_Trains_tryDrivers_28 (fun H locs hW => ?_)
    refine lv_if_eq (tgt := 52) hx hb gd_Trains_tryDrivers_31 (by decide) (fun c17 => ?_) (fun c17 => ?_)
    · have h := gf_t c17 h
      exact gx_Trains_tryDrivers_b52 F C hr hk  u14 t0 y1 o_t0 hW (lv_sub hl [0, 1] rfl) h
    · have h := gf_f c17 h
      refine lv_aload_n hx hb gd_Trains_tryDrivers_34 rfl (lv_at hl 0 rfl) ?_
      refine lv_aload_n hx hb gd_Trains_tryDrivers_35 rfl (lv_at hl 0 rfl) ?_
      refine gw_geti (k := 12) (ref := R_Trains) C hW o_t0 (by decide) rfl gi_Trains rfl (by decide) rfl rfl gk_175 gd_Trains_tryDrivers_36 ?_
      refine gw_puti (k := 11) (ref := R_Trains) (fty := .int) C hW o_t0 (by decide) rfl gi_Trains rfl (by decide) rfl rfl gk_184 tf_Trains tf_Trains_ok nm_Trains rfl rfl rfl rfl gd_Trains_tryDrivers_39 (fun u18 H locs e19 hW => ?_)
      have h := gf_nm_ok e19 h
      refine lv_aload_n hx hb gd_Trains_tryDrivers_42 rfl (lv_at hl 0 rfl) ?_
      obtain ⟨u20, d21, h⟩ := gf_bd_ok h
      refine gw_callVv (K := R_Trains) (As := []) (rest := []) C hW (fun _ h => Or.inr h) hl.1 gm_Trains_takeGroup (gc_Trains_takeGroup l F o_t0 d21 _) gk_185 gk_186 gk_187 o_t0 (by decide) rfl rfl rfl ⟨Nat.le_of_ble_eq_true rfl, Nat.le_of_ble_eq_true rfl⟩ ⟨Nat.zero_le _, Nat.zero_le _⟩ rfl rfl (Nat.le_of_ble_eq_true rfl) gd_Trains_tryDrivers_43 (fun H locs hW => ?_)
      obtain ⟨a22, e23⟩ : ∃ y : Int32, y = x5 + 1 := ⟨_, rfl⟩
      have h := gf_nm_ok e23 h
      refine lv_iinc (v := a22) (lv' := [(5, .int a22), (0, .ref (hs t0)), (1, .long y1), (3, .long y3)]) hx hb gd_Trains_tryDrivers_46 hl (k := 3) rfl (by rw [e23]; rfl) (by decide) rfl (fun ls hl => ?_)
      refine lv_goto (tgt := 13) hx hb gd_Trains_tryDrivers_49 (by decide) ?_
      exact k_13 u20 t0 y1 y3 a22 _ _ _ o_t0 hW (lv_sub hl [1, 2, 3, 0] rfl) h
set_option maxHeartbeats 4000000 in
set_option maxRecDepth 20000 in
theorem gx_Trains_tryDrivers_L13 {p : Program} {l : Launch} {e : Env} {s : State} {m : MethodId} {args : Array Value} {below : List Frame} {meth : Method} {c : Code} {D : va_G} {cA : Nat → ClassId} {hs : Nat → Nat} {z : gw_Sh} (F : Nat) {r0 : gw_St} (C : gw_Cx p s m args c gb_Trains_tryDrivers 6 R_Trains D cA) (hr : meth.sig.returnType = none) (hk : meth.locks = false) : ∀ (n : Nat), ∀ (u : gw_St) (t0 : Nat) (y1 : Int64) (y3 : Int64) (x5 : Int32) (H : Heap) (locs : List Loc) (ls : Array Slot), gw_ok z t0 1 → gw_Wx D cA hs z s u H locs → lv_has ls 6 [(0, .ref (hs t0)), (1, .long y1), (3, .long y3), (5, .int x5)] → gf_Trains_tryDrivers_L13 F z  n u t0 y1 y3 x5 = some r0 → gw_Gv p l e gr_Trains_tryDrivers s m args below meth c D cA hs z r0 H locs ls 13 [] := by
  intro n
  induction n with
  | zero =>
    intro u t0 y1 y3 x5 H locs ls o_t0 hW hl h
    cases h
  | succ n ih =>
    intro u t0 y1 y3 x5 H locs ls o_t0 hW hl h
    exact gx_Trains_tryDrivers_S13 F C hr hk  ih u t0 y1 y3 x5 o_t0 hW hl h

set_option maxHeartbeats 4000000 in
set_option maxRecDepth 20000 in
theorem gx_Trains_tryDrivers_b0 {p : Program} {l : Launch} {e : Env} {s : State} {m : MethodId} {args : Array Value} {below : List Frame} {meth : Method} {c : Code} {D : va_G} {cA : Nat → ClassId} {hs : Nat → Nat} {z : gw_Sh} (F : Nat) {r0 : gw_St} (C : gw_Cx p s m args c gb_Trains_tryDrivers 6 R_Trains D cA) (hr : meth.sig.returnType = none) (hk : meth.locks = false) (u : gw_St) (t0 : Nat) (y1 : Int64) (o_t0 : gw_ok z t0 1) {H : Heap} {locs : List Loc} {ls : Array Slot} (hW : gw_Wx D cA hs z s u H locs) (hl : lv_has ls 6 [(0, .ref (hs t0)), (1, .long y1)]) (h : gf_Trains_tryDrivers_b0 F z   u t0 y1 = some r0) : gw_Gv p l e gr_Trains_tryDrivers s m args below meth c D cA hs z r0 H locs ls 0 [] := by
  obtain ⟨hx, hb, hml, hown, hts, hK⟩ := id C
  unfold gf_Trains_tryDrivers_b0 at h
  refine lv_lload_n hx hb gd_Trains_tryDrivers_0 rfl (lv_at hl 1 rfl) ?_
  obtain ⟨a26, u24, d25, h⟩ := gf_cl_ok h
  refine gw_callSl (As := [.long y1]) (rest := []) C hW (fun _ h => Or.inr h) hl.1 gm_Trains_product (gc_Trains_product l F  d25 _) gk_163 gk_164 rfl rfl ⟨Nat.le_of_ble_eq_true rfl, Nat.le_of_ble_eq_true rfl⟩ ⟨Nat.zero_le _, Nat.zero_le _⟩ rfl rfl (Nat.le_of_ble_eq_true rfl) gd_Trains_tryDrivers_1 (fun H locs hW => ?_)
  refine lv_aload_n hx hb gd_Trains_tryDrivers_4 rfl (lv_at hl 0 rfl) ?_
  refine gw_getl (k := 5) (ref := R_Trains) C hW o_t0 (by decide) rfl gi_Trains rfl (by decide) rfl rfl gk_139 gd_Trains_tryDrivers_5 ?_
  refine lv_lmul hx hb gd_Trains_tryDrivers_8 ?_
  refine lv_topl (fun a27 e28 => ?_)
  have h := gf_nm_ok e28 h
  refine lv_lstore_n (lv' := [(3, .long a27), (0, .ref (hs t0)), (1, .long y1)]) hx hb gd_Trains_tryDrivers_9 rfl hl (by decide) rfl (fun ls hl => ?_)
  refine lv_iconst (v := 0) hx hb gd_Trains_tryDrivers_10 (by decide) ?_
  refine lv_istore (lv' := [(5, .int 0), (3, .long a27), (0, .ref (hs t0)), (1, .long y1)]) hx hb gd_Trains_tryDrivers_11 hl (by decide) rfl (fun ls hl => ?_)
  exact gx_Trains_tryDrivers_L13 F C hr hk  F u24 t0 y1 a27 0 _ _ _ o_t0 hW (lv_sub hl [2, 3, 1, 0] rfl) h

set_option maxRecDepth 20000 in
theorem gc_Trains_tryDrivers (l : Launch) {D : va_G} {cA : Nat → ClassId} {hs : Nat → Nat} {z : gw_Sh} (F : Nat) {u : gw_St} {r0 : gw_St} {t0 : Nat} {y1 : Int64} (o_t0 : gw_ok z t0 1) (h : gf_Trains_tryDrivers F z u t0 y1 = some r0) (sz : Nat) : gw_Mv l gy_Trains_tryDrivers gb_Trains_tryDrivers 6 none gr_Trains_tryDrivers [.ref (hs t0), .long y1] D cA hs z u sz r0 := by
  refine gw_enter (by decide) (Nat.le_of_ble_eq_true rfl) ?_
  intro p e s m below meth c ls hsz C hW hr hk _ hl
  subst hsz
  exact gx_Trains_tryDrivers_b0 F C hr hk u t0 y1 o_t0 hW (lv_sub hl [0, 1] rfl) h
-- GearDesk$Trains.goThrough(I)V
theorem gk_210 : Cond.methodLink R_Trains 58 gy_Trains_tryDrivers ∈ gt_T := gt_m4 (List.mem_of_getElem? (i := 106) rfl) rfl
theorem gk_211 : Cond.instanceMethod gy_Trains_tryDrivers ∈ gt_T := gt_m4 (List.mem_of_getElem? (i := 108) rfl) rfl
theorem gk_212 : Cond.selects R_Trains gy_Trains_tryDrivers gy_Trains_tryDrivers ∈ gt_T := gt_p1 (List.mem_of_getElem? (i := 10) rfl) rfl
theorem gk_213 : Cond.methodLink R_Trains 52 Lib.Math.min.name ∈ gt_T := gt_m4 (List.mem_of_getElem? (i := 105) rfl) rfl
theorem gk_214 : Cond.methodLink R_Trains 49 gy_Trains_prepare ∈ gt_T := gt_m3 (List.mem_of_getElem? (i := 24) rfl) rfl
theorem gk_215 : Cond.instanceMethod gy_Trains_prepare ∈ gt_T := gt_m3 (List.mem_of_getElem? (i := 26) rfl) rfl
theorem gk_216 : Cond.selects R_Trains gy_Trains_prepare gy_Trains_prepare ∈ gt_T := gt_p1 (List.mem_of_getElem? (i := 2) rfl) rfl
def gy_Trains_goThrough : MethodName := ⟨R_Trains, "goThrough", "(I)V"⟩
abbrev gb_Trains_goThrough : ByteArray := prog_7_method_6_code
theorem gk_217 : Cond.code gy_Trains_goThrough gb_Trains_goThrough 4 none ∈ gt_T := gt_m3 (List.mem_of_getElem? (i := 23) rfl) rfl
def gr_Trains_goThrough : Room := gw_rm 6 194
theorem gm_Trains_goThrough : gw_Mth gy_Trains_goThrough gb_Trains_goThrough 4 none 1 := ⟨gk_217, gk_131, ⟨by decide +kernel, by decide +kernel⟩, by decide +kernel⟩
theorem gd_Trains_goThrough_0 : decode gb_Trains_goThrough 0 = .ok (.aload_n 0, 1) := by decide +kernel
theorem gd_Trains_goThrough_1 : decode gb_Trains_goThrough 1 = .ok (.getfield 46, 3) := by decide +kernel
theorem gd_Trains_goThrough_4 : decode gb_Trains_goThrough 4 = .ok (.ifCond .ne 7, 3) := by decide +kernel
theorem gd_Trains_goThrough_7 : decode gb_Trains_goThrough 7 = .ok (.aload_n 0, 1) := by decide +kernel
theorem gd_Trains_goThrough_8 : decode gb_Trains_goThrough 8 = .ok (.invokevirtual 49, 3) := by decide +kernel
theorem gd_Trains_goThrough_11 : decode gb_Trains_goThrough 11 = .ok (.aload_n 0, 1) := by decide +kernel
theorem gd_Trains_goThrough_12 : decode gb_Trains_goThrough 12 = .ok (.getfield 46, 3) := by decide +kernel
theorem gd_Trains_goThrough_15 : decode gb_Trains_goThrough 15 = .ok (.iload_n 1, 1) := by decide +kernel
theorem gd_Trains_goThrough_16 : decode gb_Trains_goThrough 16 = .ok (.aload_n 0, 1) := by decide +kernel
theorem gd_Trains_goThrough_17 : decode gb_Trains_goThrough 17 = .ok (.getfield 43, 3) := by decide +kernel
theorem gd_Trains_goThrough_20 : decode gb_Trains_goThrough 20 = .ok (.aload_n 0, 1) := by decide +kernel
theorem gd_Trains_goThrough_21 : decode gb_Trains_goThrough 21 = .ok (.getfield 46, 3) := by decide +kernel
theorem gd_Trains_goThrough_24 : decode gb_Trains_goThrough 24 = .ok (.isub, 1) := by decide +kernel
theorem gd_Trains_goThrough_25 : decode gb_Trains_goThrough 25 = .ok (.invokestatic 52, 3) := by decide +kernel
theorem gd_Trains_goThrough_28 : decode gb_Trains_goThrough 28 = .ok (.iadd, 1) := by decide +kernel
theorem gd_Trains_goThrough_29 : decode gb_Trains_goThrough 29 = .ok (.istore_n 2, 1) := by decide +kernel
theorem gd_Trains_goThrough_30 : decode gb_Trains_goThrough 30 = .ok (.aload_n 0, 1) := by decide +kernel
theorem gd_Trains_goThrough_31 : decode gb_Trains_goThrough 31 = .ok (.getfield 46, 3) := by decide +kernel
theorem gd_Trains_goThrough_34 : decode gb_Trains_goThrough 34 = .ok (.istore_n 3, 1) := by decide +kernel
theorem gd_Trains_goThrough_35 : decode gb_Trains_goThrough 35 = .ok (.iload_n 3, 1) := by decide +kernel
theorem gd_Trains_goThrough_36 : decode gb_Trains_goThrough 36 = .ok (.iload_n 2, 1) := by decide +kernel
theorem gd_Trains_goThrough_37 : decode gb_Trains_goThrough 37 = .ok (.if_icmp .ge 19, 3) := by decide +kernel
theorem gd_Trains_goThrough_40 : decode gb_Trains_goThrough 40 = .ok (.aload_n 0, 1) := by decide +kernel
theorem gd_Trains_goThrough_41 : decode gb_Trains_goThrough 41 = .ok (.aload_n 0, 1) := by decide +kernel
theorem gd_Trains_goThrough_42 : decode gb_Trains_goThrough 42 = .ok (.getfield 12, 3) := by decide +kernel
theorem gd_Trains_goThrough_45 : decode gb_Trains_goThrough 45 = .ok (.iload_n 3, 1) := by decide +kernel
theorem gd_Trains_goThrough_46 : decode gb_Trains_goThrough 46 = .ok (.laload, 1) := by decide +kernel
theorem gd_Trains_goThrough_47 : decode gb_Trains_goThrough 47 = .ok (.invokevirtual 58, 3) := by decide +kernel
theorem gd_Trains_goThrough_50 : decode gb_Trains_goThrough 50 = .ok (.iinc 3 1, 3) := by decide +kernel
theorem gd_Trains_goThrough_53 : decode gb_Trains_goThrough 53 = .ok (.goto (-18), 3) := by decide +kernel
theorem gd_Trains_goThrough_56 : decode gb_Trains_goThrough 56 = .ok (.aload_n 0, 1) := by decide +kernel
theorem gd_Trains_goThrough_57 : decode gb_Trains_goThrough 57 = .ok (.iload_n 2, 1) := by decide +kernel
theorem gd_Trains_goThrough_58 : decode gb_Trains_goThrough 58 = .ok (.putfield 46, 3) := by decide +kernel
theorem gd_Trains_goThrough_61 : decode gb_Trains_goThrough 61 = .ok (.return_, 1) := by decide +kernel
def gf_Trains_goThrough_S35 (F : Nat) (z : gw_Sh)  (rc_35 : gw_St → Nat → Int32 → Int32 → Option gw_St) (u : gw_St) (t0 : Nat) (x2 : Int32) (x3 : Int32) : Option gw_St :=
  if x2 ≤ x3 then (gf_nm (gw_wi u t0 10 x2) fun u2 => some u2) else (gf_nn (u.2.2 t0 0) fun q4 => if (x3 < 0 ∨ z.2.2 q4 ≤ (x3).toNatClampNeg) then none else (gf_Trains_tryDrivers F z u t0 (u.2.1 q4 (x3).toNatClampNeg)).bind fun u7 => gf_nm (x3 + 1) fun a9 => rc_35 u7 t0 x2 a9)
def gf_Trains_goThrough_L35 (F : Nat) (z : gw_Sh)  : Nat → gw_St → Nat → Int32 → Int32 → Option gw_St
  | 0 => fun _ _ _ _ => none
  | n + 1 => fun u t0 x2 x3 => gf_Trains_goThrough_S35 F z  (gf_Trains_goThrough_L35 F z  n) u t0 x2 x3
def gf_Trains_goThrough_b11 (F : Nat) (z : gw_Sh)  (u : gw_St) (t0 : Nat) (x1 : Int32) : Option gw_St :=
  gf_nm ((u.1 t0 10) + (if ((u.1 t0 9) - (u.1 t0 10)) < x1 then ((u.1 t0 9) - (u.1 t0 10)) else x1)) fun a11 => gf_nm (u.1 t0 10) fun a13 => gf_Trains_goThrough_L35 F z  F u t0 a11 a13
def gf_Trains_goThrough_b0 (F : Nat) (z : gw_Sh)  (u : gw_St) (t0 : Nat) (x1 : Int32) : Option gw_St :=
  if (u.1 t0 10) = 0 then ((gf_Trains_prepare F z u t0).bind fun u16 => gf_Trains_goThrough_b11 F z  u16 t0 x1) else (gf_Trains_goThrough_b11 F z  u t0 x1)
def gf_Trains_goThrough (F : Nat) (z : gw_Sh) (u : gw_St) (t0 : Nat) (x1 : Int32) : Option gw_St := gf_Trains_goThrough_b0 F z  u t0 x1
set_option maxHeartbeats 4000000 in
set_option maxRecDepth 20000 in
theorem gx_Trains_goThrough_S35 {p : Program} {l : Launch} {e : Env} {s : State} {m : MethodId} {args : Array Value} {below : List Frame} {meth : Method} {c : Code} {D : va_G} {cA : Nat → ClassId} {hs : Nat → Nat} {z : gw_Sh} (F : Nat) {r0 : gw_St} (C : gw_Cx p s m args c gb_Trains_goThrough 4 R_Trains D cA) (hr : meth.sig.returnType = none) (hk : meth.locks = false) {rc_35 : gw_St → Nat → Int32 → Int32 → Option gw_St} (k_35 : ∀ (u : gw_St) (t0 : Nat) (x2 : Int32) (x3 : Int32) (H : Heap) (locs : List Loc) (ls : Array Slot), gw_ok z t0 1 → gw_Wx D cA hs z s u H locs → lv_has ls 4 [(0, .ref (hs t0)), (2, .int x2), (3, .int x3)] → rc_35 u t0 x2 x3 = some r0 → gw_Gv p l e gr_Trains_goThrough s m args below meth c D cA hs z r0 H locs ls 35 []) (u : gw_St) (t0 : Nat) (x2 : Int32) (x3 : Int32) (o_t0 : gw_ok z t0 1) {H : Heap} {locs : List Loc} {ls : Array Slot} (hW : gw_Wx D cA hs z s u H locs) (hl : lv_has ls 4 [(0, .ref (hs t0)), (2, .int x2), (3, .int x3)]) (h : gf_Trains_goThrough_S35 F z  rc_35 u t0 x2 x3 = some r0) : gw_Gv p l e gr_Trains_goThrough s m args below meth c D cA hs z r0 H locs ls 35 [] := by
  obtain ⟨hx, hb, hml, hown, hts, hK⟩ := id C
  unfold gf_Trains_goThrough_S35 at h
  refine lv_iload_n hx hb gd_Trains_goThrough_35 rfl (lv_at hl 2 rfl) ?_
  refine lv_iload_n hx hb gd_Trains_goThrough_36 rfl (lv_at hl 1 rfl) ?_
  refine lv_icmp_ge (tgt := 56) hx hb gd_Trains_goThrough_37 (by decide) (fun c1 => ?_) (fun c1 => ?_)
  · have h := gf_t c1 h
    refine lv_aload_n hx hb gd_Trains_goThrough_56 rfl (lv_at hl 0 rfl) ?_
    refine lv_iload_n hx hb gd_Trains_goThrough_57 rfl (lv_at hl 1 rfl) ?_
    refine gw_puti (k := 10) (ref := R_Trains) (fty := .int) C hW o_t0 (by decide) rfl gi_Trains rfl (by decide) rfl rfl gk_134 tf_Trains tf_Trains_ok nm_Trains rfl rfl rfl rfl gd_Trains_goThrough_58 (fun u2 H locs e3 hW => ?_)
    have h := gf_nm_ok e3 h
    obtain rfl := Option.some.inj h
    exact gw_vret C hW hr hk gd_Trains_goThrough_61
  · have h := gf_f c1 h
    refine lv_aload_n hx hb gd_Trains_goThrough_40 rfl (lv_at hl 0 rfl) ?_
    refine lv_aload_n hx hb gd_Trains_goThrough_41 rfl (lv_at hl 0 rfl) ?_
    obtain ⟨q4, e5, h⟩ := gf_nn_ok h
    refine gw_getr (k := 0) (ty := 11) (ref := R_Trains) C hW o_t0 (by decide) rfl gi_Trains rfl (by decide) rfl rfl gk_146 gd_Trains_goThrough_42 e5 ?_
    have o_q4 := hW.ref (d := 11) o_t0 e5 rfl
    refine lv_iload_n hx hb gd_Trains_goThrough_45 rfl (lv_at hl 2 rfl) ?_
    obtain ⟨g6, h⟩ := gf_if_ok h
    refine gw_lald C hW o_q4 g6 gd_Trains_goThrough_46 ?_
    obtain ⟨u7, d8, h⟩ := gf_bd_ok h
    refine gw_callVv (K := R_Trains) (As := [.long (u.2.1 q4 (x3).toNatClampNeg)]) (rest := []) C hW (fun _ h => Or.inr h) hl.1 gm_Trains_tryDrivers (gc_Trains_tryDrivers l F o_t0 d8 _) gk_210 gk_211 gk_212 o_t0 (by decide) rfl rfl rfl ⟨Nat.le_of_ble_eq_true rfl, Nat.le_of_ble_eq_true rfl⟩ ⟨Nat.zero_le _, Nat.zero_le _⟩ rfl rfl (Nat.le_of_ble_eq_true rfl) gd_Trains_goThrough_47 (fun H locs hW => ?_)
    obtain ⟨a9, e10⟩ : ∃ y : Int32, y = x3 + 1 := ⟨_, rfl⟩
    have h := gf_nm_ok e10 h
    refine lv_iinc (v := a9) (lv' := [(3, .int a9), (0, .ref (hs t0)), (2, .int x2)]) hx hb gd_Trains_goThrough_50 hl (k := 2) rfl (by rw [e10]; rfl) (by decide) rfl (fun ls hl => ?_)
    refine lv_goto (tgt := 35) hx hb gd_Trains_goThrough_53 (by decide) ?_
    exact k_35 u7 t0 x2 a9 _ _ _ o_t0 hW (lv_sub hl [1, 2, 0] rfl) h
set_option maxHeartbeats 4000000 in
set_option maxRecDepth 20000 in
theorem gx_Trains_goThrough_L35 {p : Program} {l : Launch} {e : Env} {s : State} {m : MethodId} {args : Array Value} {below : List Frame} {meth : Method} {c : Code} {D : va_G} {cA : Nat → ClassId} {hs : Nat → Nat} {z : gw_Sh} (F : Nat) {r0 : gw_St} (C : gw_Cx p s m args c gb_Trains_goThrough 4 R_Trains D cA) (hr : meth.sig.returnType = none) (hk : meth.locks = false) : ∀ (n : Nat), ∀ (u : gw_St) (t0 : Nat) (x2 : Int32) (x3 : Int32) (H : Heap) (locs : List Loc) (ls : Array Slot), gw_ok z t0 1 → gw_Wx D cA hs z s u H locs → lv_has ls 4 [(0, .ref (hs t0)), (2, .int x2), (3, .int x3)] → gf_Trains_goThrough_L35 F z  n u t0 x2 x3 = some r0 → gw_Gv p l e gr_Trains_goThrough s m args below meth c D cA hs z r0 H locs ls 35 [] := by
  intro n
  induction n with
  | zero =>
    intro u t0 x2 x3 H locs ls o_t0 hW hl h
    cases h
  | succ n ih =>
    intro u t0 x2 x3 H locs ls o_t0 hW hl h
    exact gx_Trains_goThrough_S35 F C hr hk  ih u t0 x2 x3 o_t0 hW hl h

set_option maxHeartbeats 4000000 in
set_option maxRecDepth 20000 in
theorem gx_Trains_goThrough_b11 {p : Program} {l : Launch} {e : Env} {s : State} {m : MethodId} {args : Array Value} {below : List Frame} {meth : Method} {c : Code} {D : va_G} {cA : Nat → ClassId} {hs : Nat → Nat} {z : gw_Sh} (F : Nat) {r0 : gw_St} (C : gw_Cx p s m args c gb_Trains_goThrough 4 R_Trains D cA) (hr : meth.sig.returnType = none) (hk : meth.locks = false) (u : gw_St) (t0 : Nat) (x1 : Int32) (o_t0 : gw_ok z t0 1) {H : Heap} {locs : List Loc} {ls : Array Slot} (hW : gw_Wx D cA hs z s u H locs) (hl : lv_has ls 4 [(0, .ref (hs t0)), (1, .int x1)]) (h : gf_Trains_goThrough_b11 F z   u t0 x1 = some r0) : gw_Gv p l e gr_Trains_goThrough s m args below meth c D cA hs z r0 H locs ls 11 [] := by
  obtain ⟨hx, hb, hml, hown, hts, hK⟩ := id C
  unfold gf_Trains_goThrough_b11 at h
  refine lv_aload_n hx hb gd_Trains_goThrough_11 rfl (lv_at hl 0 rfl) ?_
  refine gw_geti (k := 10) (ref := R_Trains) C hW o_t0 (by decide) rfl gi_Trains rfl (by decide) rfl rfl gk_134 gd_Trains_goThrough_12 ?_
  refine lv_iload_n hx hb gd_Trains_goThrough_15 rfl (lv_at hl 1 rfl) ?_
  refine lv_aload_n hx hb gd_Trains_goThrough_16 rfl (lv_at hl 0 rfl) ?_
  refine gw_geti (k := 9) (ref := R_Trains) C hW o_t0 (by decide) rfl gi_Trains rfl (by decide) rfl rfl gk_135 gd_Trains_goThrough_17 ?_
  refine lv_aload_n hx hb gd_Trains_goThrough_20 rfl (lv_at hl 0 rfl) ?_
  refine gw_geti (k := 10) (ref := R_Trains) C hW o_t0 (by decide) rfl gi_Trains rfl (by decide) rfl rfl gk_134 gd_Trains_goThrough_21 ?_
  refine lv_isub hx hb gd_Trains_goThrough_24 ?_
  refine va_mmin hx hb (hml.trans hl.1.symm) hown (hts _ gk_213) (hts _ gk_122) (hts _ gk_26) (hts _ gk_123) (Nat.le_of_ble_eq_true rfl) (Nat.le_of_ble_eq_true rfl) (Nat.zero_le _) (Nat.zero_le _) gd_Trains_goThrough_25 ?_
  refine lv_iadd hx hb gd_Trains_goThrough_28 ?_
  refine lv_topi (fun a11 e12 => ?_)
  have h := gf_nm_ok e12 h
  refine lv_istore_n (lv' := [(2, .int a11), (0, .ref (hs t0)), (1, .int x1)]) hx hb gd_Trains_goThrough_29 rfl hl (by decide) rfl (fun ls hl => ?_)
  refine lv_aload_n hx hb gd_Trains_goThrough_30 rfl (lv_at hl 1 rfl) ?_
  refine gw_geti (k := 10) (ref := R_Trains) C hW o_t0 (by decide) rfl gi_Trains rfl (by decide) rfl rfl gk_134 gd_Trains_goThrough_31 ?_
  refine lv_topi (fun a13 e14 => ?_)
  have h := gf_nm_ok e14 h
  refine lv_istore_n (lv' := [(3, .int a13), (2, .int a11), (0, .ref (hs t0)), (1, .int x1)]) hx hb gd_Trains_goThrough_34 rfl hl (by decide) rfl (fun ls hl => ?_)
  exact gx_Trains_goThrough_L35 F C hr hk  F u t0 a11 a13 _ _ _ o_t0 hW (lv_sub hl [2, 1, 0] rfl) h

set_option maxHeartbeats 4000000 in
set_option maxRecDepth 20000 in
theorem gx_Trains_goThrough_b0 {p : Program} {l : Launch} {e : Env} {s : State} {m : MethodId} {args : Array Value} {below : List Frame} {meth : Method} {c : Code} {D : va_G} {cA : Nat → ClassId} {hs : Nat → Nat} {z : gw_Sh} (F : Nat) {r0 : gw_St} (C : gw_Cx p s m args c gb_Trains_goThrough 4 R_Trains D cA) (hr : meth.sig.returnType = none) (hk : meth.locks = false) (u : gw_St) (t0 : Nat) (x1 : Int32) (o_t0 : gw_ok z t0 1) {H : Heap} {locs : List Loc} {ls : Array Slot} (hW : gw_Wx D cA hs z s u H locs) (hl : lv_has ls 4 [(0, .ref (hs t0)), (1, .int x1)]) (h : gf_Trains_goThrough_b0 F z   u t0 x1 = some r0) : gw_Gv p l e gr_Trains_goThrough s m args below meth c D cA hs z r0 H locs ls 0 [] := by
  obtain ⟨hx, hb, hml, hown, hts, hK⟩ := id C
  unfold gf_Trains_goThrough_b0 at h
  refine lv_aload_n hx hb gd_Trains_goThrough_0 rfl (lv_at hl 0 rfl) ?_
  refine gw_geti (k := 10) (ref := R_Trains) C hW o_t0 (by decide) rfl gi_Trains rfl (by decide) rfl rfl gk_134 gd_Trains_goThrough_1 ?_
  refine lv_if_ne (tgt := 11) hx hb gd_Trains_goThrough_4 (by decide) (fun c15 => ?_) (fun c15 => ?_)
  · have h := gf_f c15 h
    exact gx_Trains_goThrough_b11 F C hr hk  u t0 x1 o_t0 hW (lv_sub hl [0, 1] rfl) h
  · have h := gf_t c15 h
    refine lv_aload_n hx hb gd_Trains_goThrough_7 rfl (lv_at hl 0 rfl) ?_
    obtain ⟨u16, d17, h⟩ := gf_bd_ok h
    refine gw_callVv (K := R_Trains) (As := []) (rest := []) C hW (fun _ h => Or.inr h) hl.1 gm_Trains_prepare (gc_Trains_prepare l F o_t0 d17 _) gk_214 gk_215 gk_216 o_t0 (by decide) rfl rfl rfl ⟨Nat.le_of_ble_eq_true rfl, Nat.le_of_ble_eq_true rfl⟩ ⟨Nat.zero_le _, Nat.zero_le _⟩ rfl rfl (Nat.le_of_ble_eq_true rfl) gd_Trains_goThrough_8 (fun H locs hW => ?_)
    exact gx_Trains_goThrough_b11 F C hr hk  u16 t0 x1 o_t0 hW (lv_sub hl [0, 1] rfl) h

set_option maxRecDepth 20000 in
theorem gc_Trains_goThrough (l : Launch) {D : va_G} {cA : Nat → ClassId} {hs : Nat → Nat} {z : gw_Sh} (F : Nat) {u : gw_St} {r0 : gw_St} {t0 : Nat} {x1 : Int32} (o_t0 : gw_ok z t0 1) (h : gf_Trains_goThrough F z u t0 x1 = some r0) (sz : Nat) : gw_Mv l gy_Trains_goThrough gb_Trains_goThrough 4 none gr_Trains_goThrough [.ref (hs t0), .int x1] D cA hs z u sz r0 := by
  refine gw_enter (by decide) (Nat.le_of_ble_eq_true rfl) ?_
  intro p e s m below meth c ls hsz C hW hr hk _ hl
  subst hsz
  exact gx_Trains_goThrough_b0 F C hr hk u t0 x1 o_t0 hW (lv_sub hl [0, 1] rfl) h
-- GearDesk$Trains.bestWheel(II)I
def gy_Trains_bestWheel : MethodName := ⟨R_Trains, "bestWheel", "(II)I"⟩
abbrev gb_Trains_bestWheel : ByteArray := prog_7_method_7_code
theorem gk_218 : Cond.code gy_Trains_bestWheel gb_Trains_bestWheel 3 (some .int) ∈ gt_T := gt_m4 (List.mem_of_getElem? (i := 159) rfl) rfl
def gr_Trains_bestWheel : Room := gw_rm 2 87
theorem gm_Trains_bestWheel : gw_Mth gy_Trains_bestWheel gb_Trains_bestWheel 3 (some .int) 2 := ⟨gk_218, gk_131, ⟨by decide +kernel, by decide +kernel⟩, by decide +kernel⟩
theorem gd_Trains_bestWheel_0 : decode gb_Trains_bestWheel 0 = .ok (.aload_n 0, 1) := by decide +kernel
theorem gd_Trains_bestWheel_1 : decode gb_Trains_bestWheel 1 = .ok (.iload_n 2, 1) := by decide +kernel
theorem gd_Trains_bestWheel_2 : decode gb_Trains_bestWheel 2 = .ok (.ifCond .ne 10, 3) := by decide +kernel
theorem gd_Trains_bestWheel_5 : decode gb_Trains_bestWheel 5 = .ok (.aload_n 0, 1) := by decide +kernel
theorem gd_Trains_bestWheel_6 : decode gb_Trains_bestWheel 6 = .ok (.getfield 62, 3) := by decide +kernel
theorem gd_Trains_bestWheel_9 : decode gb_Trains_bestWheel 9 = .ok (.goto 7, 3) := by decide +kernel
theorem gd_Trains_bestWheel_12 : decode gb_Trains_bestWheel 12 = .ok (.aload_n 0, 1) := by decide +kernel
theorem gd_Trains_bestWheel_13 : decode gb_Trains_bestWheel 13 = .ok (.getfield 65, 3) := by decide +kernel
theorem gd_Trains_bestWheel_16 : decode gb_Trains_bestWheel 16 = .ok (.iload_n 1, 1) := by decide +kernel
theorem gd_Trains_bestWheel_17 : decode gb_Trains_bestWheel 17 = .ok (.invokevirtual 68, 3) := by decide +kernel
theorem gd_Trains_bestWheel_20 : decode gb_Trains_bestWheel 20 = .ok (.ireturn, 1) := by decide +kernel
def gf_Trains_bestWheel_b16 (F : Nat) (z : gw_Sh)  (u : gw_St) (x1 : Int32) (st0 : Nat) (sy1 : Int64) : Option (Int32 × gw_St) :=
  gf_cl (gf_Trains_wheel F z u st0 sy1 x1) fun a3 u1 => some (a3, u1)
def gf_Trains_bestWheel_b0 (F : Nat) (z : gw_Sh)  (u : gw_St) (t0 : Nat) (x1 : Int32) (x2 : Int32) : Option (Int32 × gw_St) :=
  if x2 = 0 then (gf_Trains_bestWheel_b16 F z  u x1 t0 (u.2.1 t0 14)) else (gf_Trains_bestWheel_b16 F z  u x1 t0 (u.2.1 t0 15))
def gf_Trains_bestWheel (F : Nat) (z : gw_Sh) (u : gw_St) (t0 : Nat) (x1 : Int32) (x2 : Int32) : Option (Int32 × gw_St) := gf_Trains_bestWheel_b0 F z  u t0 x1 x2
set_option maxHeartbeats 4000000 in
set_option maxRecDepth 20000 in
theorem gx_Trains_bestWheel_b16 {p : Program} {l : Launch} {e : Env} {s : State} {m : MethodId} {args : Array Value} {below : List Frame} {meth : Method} {c : Code} {D : va_G} {cA : Nat → ClassId} {hs : Nat → Nat} {z : gw_Sh} (F : Nat) {r0 : (Int32 × gw_St)} (C : gw_Cx p s m args c gb_Trains_bestWheel 3 R_Trains D cA) (hr : meth.sig.returnType = (some .int)) (hk : meth.locks = false) (u : gw_St) (x1 : Int32) (st0 : Nat) (sy1 : Int64) (o_st0 : gw_ok z st0 1) {H : Heap} {locs : List Loc} {ls : Array Slot} (hW : gw_Wx D cA hs z s u H locs) (hl : lv_has ls 3 [(1, .int x1)]) (h : gf_Trains_bestWheel_b16 F z   u x1 st0 sy1 = some r0) : gw_Gi p l e gr_Trains_bestWheel s m args below meth c D cA hs z r0 H locs ls 16 [.long sy1, .ref (hs st0)] := by
  obtain ⟨hx, hb, hml, hown, hts, hK⟩ := id C
  unfold gf_Trains_bestWheel_b16 at h
  refine lv_iload_n hx hb gd_Trains_bestWheel_16 rfl (lv_at hl 0 rfl) ?_
  obtain ⟨a3, u1, d2, h⟩ := gf_cl_ok h
  refine gw_callVi (K := R_Trains) (As := [.long sy1, .int x1]) (rest := []) C hW (fun _ h => Or.inr h) hl.1 gm_Trains_wheel (gc_Trains_wheel l F o_st0 d2 _) gk_167 gk_168 gk_169 o_st0 (by decide) rfl rfl rfl ⟨Nat.le_of_ble_eq_true rfl, Nat.le_of_ble_eq_true rfl⟩ ⟨Nat.zero_le _, Nat.zero_le _⟩ rfl rfl (Nat.le_of_ble_eq_true rfl) gd_Trains_bestWheel_17 (fun H locs hW => ?_)
  obtain rfl := Option.some.inj h
  exact gw_iret C hW hr hk gd_Trains_bestWheel_20

set_option maxHeartbeats 4000000 in
set_option maxRecDepth 20000 in
theorem gx_Trains_bestWheel_b0 {p : Program} {l : Launch} {e : Env} {s : State} {m : MethodId} {args : Array Value} {below : List Frame} {meth : Method} {c : Code} {D : va_G} {cA : Nat → ClassId} {hs : Nat → Nat} {z : gw_Sh} (F : Nat) {r0 : (Int32 × gw_St)} (C : gw_Cx p s m args c gb_Trains_bestWheel 3 R_Trains D cA) (hr : meth.sig.returnType = (some .int)) (hk : meth.locks = false) (u : gw_St) (t0 : Nat) (x1 : Int32) (x2 : Int32) (o_t0 : gw_ok z t0 1) {H : Heap} {locs : List Loc} {ls : Array Slot} (hW : gw_Wx D cA hs z s u H locs) (hl : lv_has ls 3 [(0, .ref (hs t0)), (1, .int x1), (2, .int x2)]) (h : gf_Trains_bestWheel_b0 F z   u t0 x1 x2 = some r0) : gw_Gi p l e gr_Trains_bestWheel s m args below meth c D cA hs z r0 H locs ls 0 [] := by
  obtain ⟨hx, hb, hml, hown, hts, hK⟩ := id C
  unfold gf_Trains_bestWheel_b0 at h
  refine lv_aload_n hx hb gd_Trains_bestWheel_0 rfl (lv_at hl 0 rfl) ?_
  refine lv_iload_n hx hb gd_Trains_bestWheel_1 rfl (lv_at hl 2 rfl) ?_
  refine lv_if_ne (tgt := 12) hx hb gd_Trains_bestWheel_2 (by decide) (fun c4 => ?_) (fun c4 => ?_)
  · have h := gf_f c4 h
    refine lv_aload_n hx hb gd_Trains_bestWheel_12 rfl (lv_at hl 0 rfl) ?_
    refine gw_getl (k := 15) (ref := R_Trains) C hW o_t0 (by decide) rfl gi_Trains rfl (by decide) rfl rfl gk_183 gd_Trains_bestWheel_13 ?_
    exact gx_Trains_bestWheel_b16 F C hr hk  u x1 t0 (u.2.1 t0 15) o_t0 hW (lv_sub hl [1] rfl) h
  · have h := gf_t c4 h
    refine lv_aload_n hx hb gd_Trains_bestWheel_5 rfl (lv_at hl 0 rfl) ?_
    refine gw_getl (k := 14) (ref := R_Trains) C hW o_t0 (by decide) rfl gi_Trains rfl (by decide) rfl rfl gk_193 gd_Trains_bestWheel_6 ?_
    refine lv_goto (tgt := 16) hx hb gd_Trains_bestWheel_9 (by decide) ?_
    exact gx_Trains_bestWheel_b16 F C hr hk  u x1 t0 (u.2.1 t0 14) o_t0 hW (lv_sub hl [1] rfl) h

set_option maxRecDepth 20000 in
theorem gc_Trains_bestWheel (l : Launch) {D : va_G} {cA : Nat → ClassId} {hs : Nat → Nat} {z : gw_Sh} (F : Nat) {u : gw_St} {r0 : (Int32 × gw_St)} {t0 : Nat} {x1 : Int32} {x2 : Int32} (o_t0 : gw_ok z t0 1) (h : gf_Trains_bestWheel F z u t0 x1 x2 = some r0) (sz : Nat) : gw_Mi l gy_Trains_bestWheel gb_Trains_bestWheel 3 (some .int) gr_Trains_bestWheel [.ref (hs t0), .int x1, .int x2] D cA hs z u sz r0 := by
  refine gw_enter (by decide) (Nat.le_of_ble_eq_true rfl) ?_
  intro p e s m below meth c ls hsz C hW hr hk _ hl
  subst hsz
  exact gx_Trains_bestWheel_b0 F C hr hk u t0 x1 x2 o_t0 hW (lv_sub hl [0, 1, 2] rfl) h
-- GearDesk$Trains.commonDivisor(JJ)J
def gy_Trains_commonDivisor : MethodName := ⟨R_Trains, "commonDivisor", "(JJ)J"⟩
abbrev gb_Trains_commonDivisor : ByteArray := prog_7_method_20_code
theorem gk_219 : Cond.code gy_Trains_commonDivisor gb_Trains_commonDivisor 11 (some .long) ∈ gt_T := gt_m4 (List.mem_of_getElem? (i := 173) rfl) rfl
def gr_Trains_commonDivisor : Room := gw_rm 1 64
theorem gm_Trains_commonDivisor : gw_Mth gy_Trains_commonDivisor gb_Trains_commonDivisor 11 (some .long) 2 := ⟨gk_219, gk_131, ⟨by decide +kernel, by decide +kernel⟩, by decide +kernel⟩
theorem gd_Trains_commonDivisor_0 : decode gb_Trains_commonDivisor 0 = .ok (.lload_n 0, 1) := by decide +kernel
theorem gd_Trains_commonDivisor_1 : decode gb_Trains_commonDivisor 1 = .ok (.lstore 4, 2) := by decide +kernel
theorem gd_Trains_commonDivisor_3 : decode gb_Trains_commonDivisor 3 = .ok (.lload_n 2, 1) := by decide +kernel
theorem gd_Trains_commonDivisor_4 : decode gb_Trains_commonDivisor 4 = .ok (.lstore 6, 2) := by decide +kernel
theorem gd_Trains_commonDivisor_6 : decode gb_Trains_commonDivisor 6 = .ok (.iconst 0, 1) := by decide +kernel
theorem gd_Trains_commonDivisor_7 : decode gb_Trains_commonDivisor 7 = .ok (.istore 8, 2) := by decide +kernel
theorem gd_Trains_commonDivisor_9 : decode gb_Trains_commonDivisor 9 = .ok (.iload 8, 2) := by decide +kernel
theorem gd_Trains_commonDivisor_11 : decode gb_Trains_commonDivisor 11 = .ok (.sipush 200, 3) := by decide +kernel
theorem gd_Trains_commonDivisor_14 : decode gb_Trains_commonDivisor 14 = .ok (.if_icmp .ge 31, 3) := by decide +kernel
theorem gd_Trains_commonDivisor_17 : decode gb_Trains_commonDivisor 17 = .ok (.lload 6, 2) := by decide +kernel
theorem gd_Trains_commonDivisor_19 : decode gb_Trains_commonDivisor 19 = .ok (.lconst 0, 1) := by decide +kernel
theorem gd_Trains_commonDivisor_20 : decode gb_Trains_commonDivisor 20 = .ok (.lcmp, 1) := by decide +kernel
theorem gd_Trains_commonDivisor_21 : decode gb_Trains_commonDivisor 21 = .ok (.ifCond .eq 24, 3) := by decide +kernel
theorem gd_Trains_commonDivisor_24 : decode gb_Trains_commonDivisor 24 = .ok (.lload 4, 2) := by decide +kernel
theorem gd_Trains_commonDivisor_26 : decode gb_Trains_commonDivisor 26 = .ok (.lload 6, 2) := by decide +kernel
theorem gd_Trains_commonDivisor_28 : decode gb_Trains_commonDivisor 28 = .ok (.lrem, 1) := by decide +kernel
theorem gd_Trains_commonDivisor_29 : decode gb_Trains_commonDivisor 29 = .ok (.lstore 9, 2) := by decide +kernel
theorem gd_Trains_commonDivisor_31 : decode gb_Trains_commonDivisor 31 = .ok (.lload 6, 2) := by decide +kernel
theorem gd_Trains_commonDivisor_33 : decode gb_Trains_commonDivisor 33 = .ok (.lstore 4, 2) := by decide +kernel
theorem gd_Trains_commonDivisor_35 : decode gb_Trains_commonDivisor 35 = .ok (.lload 9, 2) := by decide +kernel
theorem gd_Trains_commonDivisor_37 : decode gb_Trains_commonDivisor 37 = .ok (.lstore 6, 2) := by decide +kernel
theorem gd_Trains_commonDivisor_39 : decode gb_Trains_commonDivisor 39 = .ok (.iinc 8 1, 3) := by decide +kernel
theorem gd_Trains_commonDivisor_42 : decode gb_Trains_commonDivisor 42 = .ok (.goto (-33), 3) := by decide +kernel
theorem gd_Trains_commonDivisor_45 : decode gb_Trains_commonDivisor 45 = .ok (.lload 4, 2) := by decide +kernel
theorem gd_Trains_commonDivisor_47 : decode gb_Trains_commonDivisor 47 = .ok (.lreturn, 1) := by decide +kernel
def gf_Trains_commonDivisor_b45 (F : Nat) (z : gw_Sh)  (u : gw_St) (y4 : Int64) : Option (Int64 × gw_St) :=
  some (y4, u)
def gf_Trains_commonDivisor_S9 (F : Nat) (z : gw_Sh)  (rc_9 : gw_St → Int64 → Int64 → Int32 → Option (Int64 × gw_St)) (u : gw_St) (y4 : Int64) (y6 : Int64) (x8 : Int32) : Option (Int64 × gw_St) :=
  if (200 : Int32) ≤ x8 then (gf_Trains_commonDivisor_b45 F z  u y4) else (if (lg_cmp y6 (0 : Int64)) = 0 then (gf_Trains_commonDivisor_b45 F z  u y4) else (if y6 = 0 then none else gf_nm (y4 - y4 / y6 * y6) fun a4 => gf_nm (x8 + 1) fun a6 => rc_9 u y6 a4 a6))
def gf_Trains_commonDivisor_L9 (F : Nat) (z : gw_Sh)  : Nat → gw_St → Int64 → Int64 → Int32 → Option (Int64 × gw_St)
  | 0 => fun _ _ _ _ => none
  | n + 1 => fun u y4 y6 x8 => gf_Trains_commonDivisor_S9 F z  (gf_Trains_commonDivisor_L9 F z  n) u y4 y6 x8
def gf_Trains_commonDivisor_b0 (F : Nat) (z : gw_Sh)  (u : gw_St) (y0 : Int64) (y2 : Int64) : Option (Int64 × gw_St) :=
  gf_Trains_commonDivisor_L9 F z  F u y0 y2 0
def gf_Trains_commonDivisor (F : Nat) (z : gw_Sh) (u : gw_St) (y0 : Int64) (y2 : Int64) : Option (Int64 × gw_St) := gf_Trains_commonDivisor_b0 F z  u y0 y2
set_option maxHeartbeats 4000000 in
set_option maxRecDepth 20000 in
theorem gx_Trains_commonDivisor_b45 {p : Program} {l : Launch} {e : Env} {s : State} {m : MethodId} {args : Array Value} {below : List Frame} {meth : Method} {c : Code} {D : va_G} {cA : Nat → ClassId} {hs : Nat → Nat} {z : gw_Sh} (F : Nat) {r0 : (Int64 × gw_St)} (C : gw_Cx p s m args c gb_Trains_commonDivisor 11 R_Trains D cA) (hr : meth.sig.returnType = (some .long)) (hk : meth.locks = false) (u : gw_St) (y4 : Int64)  {H : Heap} {locs : List Loc} {ls : Array Slot} (hW : gw_Wx D cA hs z s u H locs) (hl : lv_has ls 11 [(4, .long y4)]) (h : gf_Trains_commonDivisor_b45 F z   u y4 = some r0) : gw_Gl p l e gr_Trains_commonDivisor s m args below meth c D cA hs z r0 H locs ls 45 [] := by
  obtain ⟨hx, hb, hml, hown, hts, hK⟩ := id C
  unfold gf_Trains_commonDivisor_b45 at h
  refine lv_lload hx hb gd_Trains_commonDivisor_45 (lv_at hl 0 rfl) ?_
  obtain rfl := Option.some.inj h
  exact gw_lret C hW hr hk gd_Trains_commonDivisor_47

set_option maxHeartbeats 4000000 in
set_option maxRecDepth 20000 in
theorem gx_Trains_commonDivisor_S9 {p : Program} {l : Launch} {e : Env} {s : State} {m : MethodId} {args : Array Value} {below : List Frame} {meth : Method} {c : Code} {D : va_G} {cA : Nat → ClassId} {hs : Nat → Nat} {z : gw_Sh} (F : Nat) {r0 : (Int64 × gw_St)} (C : gw_Cx p s m args c gb_Trains_commonDivisor 11 R_Trains D cA) (hr : meth.sig.returnType = (some .long)) (hk : meth.locks = false) {rc_9 : gw_St → Int64 → Int64 → Int32 → Option (Int64 × gw_St)} (k_9 : ∀ (u : gw_St) (y4 : Int64) (y6 : Int64) (x8 : Int32) (H : Heap) (locs : List Loc) (ls : Array Slot), gw_Wx D cA hs z s u H locs → lv_has ls 11 [(4, .long y4), (6, .long y6), (8, .int x8)] → rc_9 u y4 y6 x8 = some r0 → gw_Gl p l e gr_Trains_commonDivisor s m args below meth c D cA hs z r0 H locs ls 9 []) (u : gw_St) (y4 : Int64) (y6 : Int64) (x8 : Int32)  {H : Heap} {locs : List Loc} {ls : Array Slot} (hW : gw_Wx D cA hs z s u H locs) (hl : lv_has ls 11 [(4, .long y4), (6, .long y6), (8, .int x8)]) (h : gf_Trains_commonDivisor_S9 F z  rc_9 u y4 y6 x8 = some r0) : gw_Gl p l e gr_Trains_commonDivisor s m args below meth c D cA hs z r0 H locs ls 9 [] := by
  obtain ⟨hx, hb, hml, hown, hts, hK⟩ := id C
  unfold gf_Trains_commonDivisor_S9 at h
  refine lv_iload hx hb gd_Trains_commonDivisor_9 (lv_at hl 2 rfl) ?_
  refine lv_sipush (v := 200) hx hb gd_Trains_commonDivisor_11 (by decide) ?_
  refine lv_icmp_ge (tgt := 45) hx hb gd_Trains_commonDivisor_14 (by decide) (fun c1 => ?_) (fun c1 => ?_)
  · have h := gf_t c1 h
    exact gx_Trains_commonDivisor_b45 F C hr hk  u y4  hW (lv_sub hl [0] rfl) h
  · have h := gf_f c1 h
    refine lv_lload hx hb gd_Trains_commonDivisor_17 (lv_at hl 1 rfl) ?_
    refine lv_lconst (v := 0) hx hb gd_Trains_commonDivisor_19 (by decide) ?_
    refine W.lcmp hx hb gd_Trains_commonDivisor_20 ?_
    refine lv_if_eq (tgt := 45) hx hb gd_Trains_commonDivisor_21 (by decide) (fun c2 => ?_) (fun c2 => ?_)
    · have h := gf_t c2 h
      exact gx_Trains_commonDivisor_b45 F C hr hk  u y4  hW (lv_sub hl [0] rfl) h
    · have h := gf_f c2 h
      refine lv_lload hx hb gd_Trains_commonDivisor_24 (lv_at hl 0 rfl) ?_
      refine lv_lload hx hb gd_Trains_commonDivisor_26 (lv_at hl 1 rfl) ?_
      obtain ⟨g3, h⟩ := gf_if_ok h
      refine lv_lrem hx hb gd_Trains_commonDivisor_28 g3 ?_
      refine lv_topl (fun a4 e5 => ?_)
      have h := gf_nm_ok e5 h
      refine lv_lstore (lv' := [(9, .long a4), (4, .long y4), (6, .long y6), (8, .int x8)]) hx hb gd_Trains_commonDivisor_29 hl (by decide) rfl (fun ls hl => ?_)
      refine lv_lload hx hb gd_Trains_commonDivisor_31 (lv_at hl 2 rfl) ?_
      refine lv_lstore (lv' := [(4, .long y6), (9, .long a4), (6, .long y6), (8, .int x8)]) hx hb gd_Trains_commonDivisor_33 hl (by decide) rfl (fun ls hl => ?_)
      refine lv_lload hx hb gd_Trains_commonDivisor_35 (lv_at hl 1 rfl) ?_
      refine lv_lstore (lv' := [(6, .long a4), (4, .long y6), (9, .long a4), (8, .int x8)]) hx hb gd_Trains_commonDivisor_37 hl (by decide) rfl (fun ls hl => ?_)
      obtain ⟨a6, e7⟩ : ∃ y : Int32, y = x8 + 1 := ⟨_, rfl⟩
      have h := gf_nm_ok e7 h
      refine lv_iinc (v := a6) (lv' := [(8, .int a6), (6, .long a4), (4, .long y6), (9, .long a4)]) hx hb gd_Trains_commonDivisor_39 hl (k := 3) rfl (by rw [e7]; rfl) (by decide) rfl (fun ls hl => ?_)
      refine lv_goto (tgt := 9) hx hb gd_Trains_commonDivisor_42 (by decide) ?_
      exact k_9 u y6 a4 a6 _ _ _  hW (lv_sub hl [2, 1, 0] rfl) h
set_option maxHeartbeats 4000000 in
set_option maxRecDepth 20000 in
theorem gx_Trains_commonDivisor_L9 {p : Program} {l : Launch} {e : Env} {s : State} {m : MethodId} {args : Array Value} {below : List Frame} {meth : Method} {c : Code} {D : va_G} {cA : Nat → ClassId} {hs : Nat → Nat} {z : gw_Sh} (F : Nat) {r0 : (Int64 × gw_St)} (C : gw_Cx p s m args c gb_Trains_commonDivisor 11 R_Trains D cA) (hr : meth.sig.returnType = (some .long)) (hk : meth.locks = false) : ∀ (n : Nat), ∀ (u : gw_St) (y4 : Int64) (y6 : Int64) (x8 : Int32) (H : Heap) (locs : List Loc) (ls : Array Slot), gw_Wx D cA hs z s u H locs → lv_has ls 11 [(4, .long y4), (6, .long y6), (8, .int x8)] → gf_Trains_commonDivisor_L9 F z  n u y4 y6 x8 = some r0 → gw_Gl p l e gr_Trains_commonDivisor s m args below meth c D cA hs z r0 H locs ls 9 [] := by
  intro n
  induction n with
  | zero =>
    intro u y4 y6 x8 H locs ls  hW hl h
    cases h
  | succ n ih =>
    intro u y4 y6 x8 H locs ls  hW hl h
    exact gx_Trains_commonDivisor_S9 F C hr hk  ih u y4 y6 x8  hW hl h

set_option maxHeartbeats 4000000 in
set_option maxRecDepth 20000 in
theorem gx_Trains_commonDivisor_b0 {p : Program} {l : Launch} {e : Env} {s : State} {m : MethodId} {args : Array Value} {below : List Frame} {meth : Method} {c : Code} {D : va_G} {cA : Nat → ClassId} {hs : Nat → Nat} {z : gw_Sh} (F : Nat) {r0 : (Int64 × gw_St)} (C : gw_Cx p s m args c gb_Trains_commonDivisor 11 R_Trains D cA) (hr : meth.sig.returnType = (some .long)) (hk : meth.locks = false) (u : gw_St) (y0 : Int64) (y2 : Int64)  {H : Heap} {locs : List Loc} {ls : Array Slot} (hW : gw_Wx D cA hs z s u H locs) (hl : lv_has ls 11 [(0, .long y0), (2, .long y2)]) (h : gf_Trains_commonDivisor_b0 F z   u y0 y2 = some r0) : gw_Gl p l e gr_Trains_commonDivisor s m args below meth c D cA hs z r0 H locs ls 0 [] := by
  obtain ⟨hx, hb, hml, hown, hts, hK⟩ := id C
  unfold gf_Trains_commonDivisor_b0 at h
  refine lv_lload_n hx hb gd_Trains_commonDivisor_0 rfl (lv_at hl 0 rfl) ?_
  refine lv_lstore (lv' := [(4, .long y0), (0, .long y0), (2, .long y2)]) hx hb gd_Trains_commonDivisor_1 hl (by decide) rfl (fun ls hl => ?_)
  refine lv_lload_n hx hb gd_Trains_commonDivisor_3 rfl (lv_at hl 2 rfl) ?_
  refine lv_lstore (lv' := [(6, .long y2), (4, .long y0), (0, .long y0), (2, .long y2)]) hx hb gd_Trains_commonDivisor_4 hl (by decide) rfl (fun ls hl => ?_)
  refine lv_iconst (v := 0) hx hb gd_Trains_commonDivisor_6 (by decide) ?_
  refine lv_istore (lv' := [(8, .int 0), (6, .long y2), (4, .long y0), (0, .long y0), (2, .long y2)]) hx hb gd_Trains_commonDivisor_7 hl (by decide) rfl (fun ls hl => ?_)
  exact gx_Trains_commonDivisor_L9 F C hr hk  F u y0 y2 0 _ _ _  hW (lv_sub hl [2, 1, 0] rfl) h

set_option maxRecDepth 20000 in
theorem gc_Trains_commonDivisor (l : Launch) {D : va_G} {cA : Nat → ClassId} {hs : Nat → Nat} {z : gw_Sh} (F : Nat) {u : gw_St} {r0 : (Int64 × gw_St)} {y0 : Int64} {y2 : Int64}  (h : gf_Trains_commonDivisor F z u y0 y2 = some r0) (sz : Nat) : gw_Ml l gy_Trains_commonDivisor gb_Trains_commonDivisor 11 (some .long) gr_Trains_commonDivisor [.long y0, .long y2] D cA hs z u sz r0 := by
  refine gw_enter (by decide) (Nat.le_of_ble_eq_true rfl) ?_
  intro p e s m below meth c ls hsz C hW hr hk _ hl
  subst hsz
  exact gx_Trains_commonDivisor_b0 F C hr hk u y0 y2  hW (lv_sub hl [0, 1] rfl) h
-- GearDesk$Trains.bestError(I)J
theorem gk_220 : Cond.methodLink R_Trains 79 gy_Trains_commonDivisor ∈ gt_T := gt_m4 (List.mem_of_getElem? (i := 171) rfl) rfl
theorem gk_221 : Cond.static gy_Trains_commonDivisor ∈ gt_T := gt_m4 (List.mem_of_getElem? (i := 172) rfl) rfl
def gy_Trains_bestError : MethodName := ⟨R_Trains, "bestError", "(I)J"⟩
abbrev gb_Trains_bestError : ByteArray := prog_7_method_8_code
theorem gk_222 : Cond.code gy_Trains_bestError gb_Trains_bestError 6 (some .long) ∈ gt_T := gt_m4 (List.mem_of_getElem? (i := 170) rfl) rfl
def gr_Trains_bestError : Room := gw_rm 2 94
theorem gm_Trains_bestError : gw_Mth gy_Trains_bestError gb_Trains_bestError 6 (some .long) 1 := ⟨gk_222, gk_131, ⟨by decide +kernel, by decide +kernel⟩, by decide +kernel⟩
theorem gd_Trains_bestError_0 : decode gb_Trains_bestError 0 = .ok (.aload_n 0, 1) := by decide +kernel
theorem gd_Trains_bestError_1 : decode gb_Trains_bestError 1 = .ok (.getfield 65, 3) := by decide +kernel
theorem gd_Trains_bestError_4 : decode gb_Trains_bestError 4 = .ok (.invokestatic 72, 3) := by decide +kernel
theorem gd_Trains_bestError_7 : decode gb_Trains_bestError 7 = .ok (.aload_n 0, 1) := by decide +kernel
theorem gd_Trains_bestError_8 : decode gb_Trains_bestError 8 = .ok (.getfield 30, 3) := by decide +kernel
theorem gd_Trains_bestError_11 : decode gb_Trains_bestError 11 = .ok (.lmul, 1) := by decide +kernel
theorem gd_Trains_bestError_12 : decode gb_Trains_bestError 12 = .ok (.lstore_n 2, 1) := by decide +kernel
theorem gd_Trains_bestError_13 : decode gb_Trains_bestError 13 = .ok (.aload_n 0, 1) := by decide +kernel
theorem gd_Trains_bestError_14 : decode gb_Trains_bestError 14 = .ok (.getfield 76, 3) := by decide +kernel
theorem gd_Trains_bestError_17 : decode gb_Trains_bestError 17 = .ok (.lload_n 2, 1) := by decide +kernel
theorem gd_Trains_bestError_18 : decode gb_Trains_bestError 18 = .ok (.invokestatic 79, 3) := by decide +kernel
theorem gd_Trains_bestError_21 : decode gb_Trains_bestError 21 = .ok (.lstore 4, 2) := by decide +kernel
theorem gd_Trains_bestError_23 : decode gb_Trains_bestError 23 = .ok (.iload_n 1, 1) := by decide +kernel
theorem gd_Trains_bestError_24 : decode gb_Trains_bestError 24 = .ok (.ifCond .ne 10, 3) := by decide +kernel
theorem gd_Trains_bestError_27 : decode gb_Trains_bestError 27 = .ok (.aload_n 0, 1) := by decide +kernel
theorem gd_Trains_bestError_28 : decode gb_Trains_bestError 28 = .ok (.getfield 76, 3) := by decide +kernel
theorem gd_Trains_bestError_31 : decode gb_Trains_bestError 31 = .ok (.goto 4, 3) := by decide +kernel
theorem gd_Trains_bestError_34 : decode gb_Trains_bestError 34 = .ok (.lload_n 2, 1) := by decide +kernel
theorem gd_Trains_bestError_35 : decode gb_Trains_bestError 35 = .ok (.lload 4, 2) := by decide +kernel
theorem gd_Trains_bestError_37 : decode gb_Trains_bestError 37 = .ok (.ldiv, 1) := by decide +kernel
theorem gd_Trains_bestError_38 : decode gb_Trains_bestError 38 = .ok (.lreturn, 1) := by decide +kernel
def gf_Trains_bestError_b35 (F : Nat) (z : gw_Sh)  (u : gw_St) (y4 : Int64) (sy0 : Int64) : Option (Int64 × gw_St) :=
  if y4 = 0 then none else some ((sy0 / y4), u)
def gf_Trains_bestError_b0 (F : Nat) (z : gw_Sh)  (u : gw_St) (t0 : Nat) (x1 : Int32) : Option (Int64 × gw_St) :=
  gf_cl (gf_Trains_product F z u (u.2.1 t0 15)) fun a4 u2 => gf_nm (a4 * (u2.2.1 t0 5)) fun a5 => gf_cl (gf_Trains_commonDivisor F z u2 (u2.2.1 t0 16) a5) fun a9 u7 => if x1 = 0 then (gf_Trains_bestError_b35 F z  u7 a9 (u7.2.1 t0 16)) else (gf_Trains_bestError_b35 F z  u7 a9 a5)
def gf_Trains_bestError (F : Nat) (z : gw_Sh) (u : gw_St) (t0 : Nat) (x1 : Int32) : Option (Int64 × gw_St) := gf_Trains_bestError_b0 F z  u t0 x1
set_option maxHeartbeats 4000000 in
set_option maxRecDepth 20000 in
theorem gx_Trains_bestError_b35 {p : Program} {l : Launch} {e : Env} {s : State} {m : MethodId} {args : Array Value} {below : List Frame} {meth : Method} {c : Code} {D : va_G} {cA : Nat → ClassId} {hs : Nat → Nat} {z : gw_Sh} (F : Nat) {r0 : (Int64 × gw_St)} (C : gw_Cx p s m args c gb_Trains_bestError 6 R_Trains D cA) (hr : meth.sig.returnType = (some .long)) (hk : meth.locks = false) (u : gw_St) (y4 : Int64) (sy0 : Int64)  {H : Heap} {locs : List Loc} {ls : Array Slot} (hW : gw_Wx D cA hs z s u H locs) (hl : lv_has ls 6 [(4, .long y4)]) (h : gf_Trains_bestError_b35 F z   u y4 sy0 = some r0) : gw_Gl p l e gr_Trains_bestError s m args below meth c D cA hs z r0 H locs ls 35 [.long sy0] := by
  obtain ⟨hx, hb, hml, hown, hts, hK⟩ := id C
  unfold gf_Trains_bestError_b35 at h
  refine lv_lload hx hb gd_Trains_bestError_35 (lv_at hl 0 rfl) ?_
  obtain ⟨g1, h⟩ := gf_if_ok h
  refine lv_ldiv hx hb gd_Trains_bestError_37 g1 ?_
  obtain rfl := Option.some.inj h
  exact gw_lret C hW hr hk gd_Trains_bestError_38

set_option maxHeartbeats 4000000 in
set_option maxRecDepth 20000 in
theorem gx_Trains_bestError_b0 {p : Program} {l : Launch} {e : Env} {s : State} {m : MethodId} {args : Array Value} {below : List Frame} {meth : Method} {c : Code} {D : va_G} {cA : Nat → ClassId} {hs : Nat → Nat} {z : gw_Sh} (F : Nat) {r0 : (Int64 × gw_St)} (C : gw_Cx p s m args c gb_Trains_bestError 6 R_Trains D cA) (hr : meth.sig.returnType = (some .long)) (hk : meth.locks = false) (u : gw_St) (t0 : Nat) (x1 : Int32) (o_t0 : gw_ok z t0 1) {H : Heap} {locs : List Loc} {ls : Array Slot} (hW : gw_Wx D cA hs z s u H locs) (hl : lv_has ls 6 [(0, .ref (hs t0)), (1, .int x1)]) (h : gf_Trains_bestError_b0 F z   u t0 x1 = some r0) : gw_Gl p l e gr_Trains_bestError s m args below meth c D cA hs z r0 H locs ls 0 [] := by
  obtain ⟨hx, hb, hml, hown, hts, hK⟩ := id C
  unfold gf_Trains_bestError_b0 at h
  refine lv_aload_n hx hb gd_Trains_bestError_0 rfl (lv_at hl 0 rfl) ?_
  refine gw_getl (k := 15) (ref := R_Trains) C hW o_t0 (by decide) rfl gi_Trains rfl (by decide) rfl rfl gk_183 gd_Trains_bestError_1 ?_
  obtain ⟨a4, u2, d3, h⟩ := gf_cl_ok h
  refine gw_callSl (As := [.long (u.2.1 t0 15)]) (rest := []) C hW (fun _ h => Or.inr h) hl.1 gm_Trains_product (gc_Trains_product l F  d3 _) gk_163 gk_164 rfl rfl ⟨Nat.le_of_ble_eq_true rfl, Nat.le_of_ble_eq_true rfl⟩ ⟨Nat.zero_le _, Nat.zero_le _⟩ rfl rfl (Nat.le_of_ble_eq_true rfl) gd_Trains_bestError_4 (fun H locs hW => ?_)
  refine lv_aload_n hx hb gd_Trains_bestError_7 rfl (lv_at hl 0 rfl) ?_
  refine gw_getl (k := 5) (ref := R_Trains) C hW o_t0 (by decide) rfl gi_Trains rfl (by decide) rfl rfl gk_139 gd_Trains_bestError_8 ?_
  refine lv_lmul hx hb gd_Trains_bestError_11 ?_
  refine lv_topl (fun a5 e6 => ?_)
  have h := gf_nm_ok e6 h
  refine lv_lstore_n (lv' := [(2, .long a5), (0, .ref (hs t0)), (1, .int x1)]) hx hb gd_Trains_bestError_12 rfl hl (by decide) rfl (fun ls hl => ?_)
  refine lv_aload_n hx hb gd_Trains_bestError_13 rfl (lv_at hl 1 rfl) ?_
  refine gw_getl (k := 16) (ref := R_Trains) C hW o_t0 (by decide) rfl gi_Trains rfl (by decide) rfl rfl gk_194 gd_Trains_bestError_14 ?_
  refine lv_lload_n hx hb gd_Trains_bestError_17 rfl (lv_at hl 0 rfl) ?_
  obtain ⟨a9, u7, d8, h⟩ := gf_cl_ok h
  refine gw_callSl (As := [.long (u2.2.1 t0 16), .long a5]) (rest := []) C hW (fun _ h => Or.inr h) hl.1 gm_Trains_commonDivisor (gc_Trains_commonDivisor l F  d8 _) gk_220 gk_221 rfl rfl ⟨Nat.le_of_ble_eq_true rfl, Nat.le_of_ble_eq_true rfl⟩ ⟨Nat.zero_le _, Nat.zero_le _⟩ rfl rfl (Nat.le_of_ble_eq_true rfl) gd_Trains_bestError_18 (fun H locs hW => ?_)
  refine lv_lstore (lv' := [(4, .long a9), (2, .long a5), (0, .ref (hs t0)), (1, .int x1)]) hx hb gd_Trains_bestError_21 hl (by decide) rfl (fun ls hl => ?_)
  refine lv_iload_n hx hb gd_Trains_bestError_23 rfl (lv_at hl 3 rfl) ?_
  refine lv_if_ne (tgt := 34) hx hb gd_Trains_bestError_24 (by decide) (fun c10 => ?_) (fun c10 => ?_)
  · have h := gf_f c10 h
    refine lv_lload_n hx hb gd_Trains_bestError_34 rfl (lv_at hl 1 rfl) ?_
    exact gx_Trains_bestError_b35 F C hr hk  u7 a9 a5  hW (lv_sub hl [0] rfl) h
  · have h := gf_t c10 h
    refine lv_aload_n hx hb gd_Trains_bestError_27 rfl (lv_at hl 2 rfl) ?_
    refine gw_getl (k := 16) (ref := R_Trains) C hW o_t0 (by decide) rfl gi_Trains rfl (by decide) rfl rfl gk_194 gd_Trains_bestError_28 ?_
    refine lv_goto (tgt := 35) hx hb gd_Trains_bestError_31 (by decide) ?_
    exact gx_Trains_bestError_b35 F C hr hk  u7 a9 (u7.2.1 t0 16)  hW (lv_sub hl [0] rfl) h

set_option maxRecDepth 20000 in
theorem gc_Trains_bestError (l : Launch) {D : va_G} {cA : Nat → ClassId} {hs : Nat → Nat} {z : gw_Sh} (F : Nat) {u : gw_St} {r0 : (Int64 × gw_St)} {t0 : Nat} {x1 : Int32} (o_t0 : gw_ok z t0 1) (h : gf_Trains_bestError F z u t0 x1 = some r0) (sz : Nat) : gw_Ml l gy_Trains_bestError gb_Trains_bestError 6 (some .long) gr_Trains_bestError [.ref (hs t0), .int x1] D cA hs z u sz r0 := by
  refine gw_enter (by decide) (Nat.le_of_ble_eq_true rfl) ?_
  intro p e s m below meth c ls hsz C hW hr hk _ hl
  subst hsz
  exact gx_Trains_bestError_b0 F C hr hk u t0 x1 o_t0 hW (lv_sub hl [0, 1] rfl) h
