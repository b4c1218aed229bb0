-- GearDesk.want(IIIII)I
theorem gk_659 : Cond.classLink R_Desk 88 (xt_nm 1) ∈ gt_T := gt_m2 (List.mem_of_getElem? (i := 162) rfl) rfl
theorem gk_660 : Cond.instantiable (xt_nm 1) 6 ∈ gt_T := gt_m2 (List.mem_of_getElem? (i := 163) rfl) rfl
theorem gk_661 : Cond.initialized (xt_nm 1) ∈ gt_T := gt_m1 (List.mem_of_getElem? (i := 17) rfl) rfl
theorem gk_662 : Cond.methodLink R_Desk 84 gy_Trains_areAllowed ∈ gt_T := gt_m2 (List.mem_of_getElem? (i := 159) rfl) rfl
theorem gk_663 : Cond.static gy_Trains_areAllowed ∈ gt_T := gt_m2 (List.mem_of_getElem? (i := 160) rfl) rfl
theorem gk_664 : Cond.methodLink R_Desk 91 gy_Trains_begin ∈ gt_T := gt_m2 (List.mem_of_getElem? (i := 228) rfl) rfl
theorem gk_665 : Cond.instanceMethod gy_Trains_begin ∈ gt_T := gt_m2 (List.mem_of_getElem? (i := 229) rfl) rfl
theorem gk_666 : Cond.selects R_Trains gy_Trains_begin gy_Trains_begin ∈ gt_T := gt_m2 (List.mem_of_getElem? (i := 230) rfl) rfl
def gy_Desk_want : MethodName := ⟨R_Desk, "want", "(IIIII)I"⟩
abbrev gb_Desk_want : ByteArray := prog_1_method_2_code
theorem gk_667 : Cond.code gy_Desk_want gb_Desk_want 6 (some .int) ∈ gt_T := gt_m2 (List.mem_of_getElem? (i := 158) rfl) rfl
theorem gm_Desk_want : gw_Mth gy_Desk_want gb_Desk_want 6 (some .int) 5 := ⟨gk_667, gk_361, ⟨by decide +kernel, by decide +kernel⟩, by decide +kernel⟩
theorem gd_Desk_want_0 : decode gb_Desk_want 0 = .ok (.iload_n 1, 1) := by decide +kernel
theorem gd_Desk_want_1 : decode gb_Desk_want 1 = .ok (.iconst 1, 1) := by decide +kernel
theorem gd_Desk_want_2 : decode gb_Desk_want 2 = .ok (.if_icmp .lt 19, 3) := by decide +kernel
theorem gd_Desk_want_5 : decode gb_Desk_want 5 = .ok (.iload_n 2, 1) := by decide +kernel
theorem gd_Desk_want_6 : decode gb_Desk_want 6 = .ok (.iconst 1, 1) := by decide +kernel
theorem gd_Desk_want_7 : decode gb_Desk_want 7 = .ok (.if_icmp .lt 14, 3) := by decide +kernel
theorem gd_Desk_want_10 : decode gb_Desk_want 10 = .ok (.iload_n 3, 1) := by decide +kernel
theorem gd_Desk_want_11 : decode gb_Desk_want 11 = .ok (.iload 4, 2) := by decide +kernel
theorem gd_Desk_want_13 : decode gb_Desk_want 13 = .ok (.iload 5, 2) := by decide +kernel
theorem gd_Desk_want_15 : decode gb_Desk_want 15 = .ok (.invokestatic 84, 3) := by decide +kernel
theorem gd_Desk_want_18 : decode gb_Desk_want 18 = .ok (.ifCond .ne 11, 3) := by decide +kernel
theorem gd_Desk_want_21 : decode gb_Desk_want 21 = .ok (.new 88, 3) := by decide +kernel
theorem gd_Desk_want_24 : decode gb_Desk_want 24 = .ok (.dup, 1) := by decide +kernel
theorem gd_Desk_want_25 : decode gb_Desk_want 25 = .ok (.invokespecial 90, 3) := by decide +kernel
theorem gd_Desk_want_28 : decode gb_Desk_want 28 = .ok (.athrow, 1) := by decide +kernel
theorem gd_Desk_want_29 : decode gb_Desk_want 29 = .ok (.aload_n 0, 1) := by decide +kernel
theorem gd_Desk_want_30 : decode gb_Desk_want 30 = .ok (.getfield 10, 3) := by decide +kernel
theorem gd_Desk_want_33 : decode gb_Desk_want 33 = .ok (.iload_n 1, 1) := by decide +kernel
theorem gd_Desk_want_34 : decode gb_Desk_want 34 = .ok (.iload_n 2, 1) := by decide +kernel
theorem gd_Desk_want_35 : decode gb_Desk_want 35 = .ok (.iload_n 3, 1) := by decide +kernel
theorem gd_Desk_want_36 : decode gb_Desk_want 36 = .ok (.iload 4, 2) := by decide +kernel
theorem gd_Desk_want_38 : decode gb_Desk_want 38 = .ok (.iload 5, 2) := by decide +kernel
theorem gd_Desk_want_40 : decode gb_Desk_want 40 = .ok (.invokevirtual 91, 3) := by decide +kernel
theorem gd_Desk_want_43 : decode gb_Desk_want 43 = .ok (.ireturn, 1) := by decide +kernel
def gf_Desk_want_b21 (F : Nat) (z : gw_Sh)  (u : gw_St)  : Option ((Int32 ⊕ Nat) × gw_St) :=
  some (.inr 1, u)
def gf_Desk_want_b0 (F : Nat) (z : gw_Sh)  (u : gw_St) (t0 : Nat) (x1 : Int32) (x2 : Int32) (x3 : Int32) (x4 : Int32) (x5 : Int32) : Option ((Int32 ⊕ Nat) × gw_St) :=
  if x1 < (1 : Int32) then (gf_Desk_want_b21 F z  u ) else (if x2 < (1 : Int32) then (gf_Desk_want_b21 F z  u ) else (gf_cl (gf_Trains_areAllowed F z u x3 x4 x5) fun a5 u3 => if a5 = 0 then (gf_Desk_want_b21 F z  u3 ) else (gf_nn (u3.2.2 t0 0) fun q7 => gf_cl (gf_Trains_begin F z u3 q7 x1 x2 x3 x4 x5) fun a11 u9 => some (.inl a11, u9))))
def gf_Desk_want (F : Nat) (z : gw_Sh) (u : gw_St) (t0 : Nat) (x1 : Int32) (x2 : Int32) (x3 : Int32) (x4 : Int32) (x5 : Int32) : Option ((Int32 ⊕ Nat) × gw_St) := gf_Desk_want_b0 F z  u t0 x1 x2 x3 x4 x5
set_option maxHeartbeats 4000000 in
set_option maxRecDepth 20000 in
theorem gx_Desk_want_b21 {p : Program} {l : Launch} {e : Env} {s : State} {m : MethodId} {args : Array Value} {below : List Frame} {meth : Method} {c : Code} {D : va_G} {cA : Nat → ClassId} {hs : Nat → Nat} {z : gw_Sh} (F : Nat) {r0 : ((Int32 ⊕ Nat) × gw_St)} (C : gw_Cx p s m args c gb_Desk_want 6 R_Desk D cA) (hr : meth.sig.returnType = (some .int)) (hk : meth.locks = false) {R : Room} (hR : 6 ≤ R.frames ∧ 120 ≤ R.locals) (hfl : l.flags = pinnedFlags ++ [noTraceFlag]) (hne : c.exceptionTable.isEmpty = true) (hX : xt_Ok e s R hs z r0) (u : gw_St)   {H : Heap} {locs : List Loc} {ls : Array Slot} (hW : gw_Wx D cA hs z s u H locs) (hl : lv_has ls 6 []) (h : gf_Desk_want_b21 F z   u  = some r0) : gw_Ti p l e R s m args below meth c D cA hs z r0 H locs ls 21 [] := by
  obtain ⟨hx, hb, hml, hown, hts, hK⟩ := id C
  unfold gf_Desk_want_b21 at h
  obtain rfl := Option.some.inj h
  have hX9 : e.platform.stackTraces = false ∧ xt_Zs (gw_A hs z s.heap.size) s s.heap ∧ 1 ≤ R.cells ∧ 6 ≤ R.slots := hX
  exact xt_throw (k := 1) C hW (fun _ h => Or.inr h) hX9.2.1 hX9.1 hl.1 hk (xt_out hne _) (by decide +kernel) xa_1 gk_659 gk_660 gk_661 gd_Desk_want_21 gd_Desk_want_24 gd_Desk_want_25 gd_Desk_want_28 (Nat.le_trans (m := 6) (Nat.le_of_ble_eq_true rfl) hR.1) (Nat.le_trans (m := 120) (Nat.le_of_ble_eq_true rfl) hR.2) hX9.2.2.1 hX9.2.2.2

set_option maxHeartbeats 4000000 in
set_option maxRecDepth 20000 in
theorem gx_Desk_want_b0 {p : Program} {l : Launch} {e : Env} {s : State} {m : MethodId} {args : Array Value} {below : List Frame} {meth : Method} {c : Code} {D : va_G} {cA : Nat → ClassId} {hs : Nat → Nat} {z : gw_Sh} (F : Nat) {r0 : ((Int32 ⊕ Nat) × gw_St)} (C : gw_Cx p s m args c gb_Desk_want 6 R_Desk D cA) (hr : meth.sig.returnType = (some .int)) (hk : meth.locks = false) {R : Room} (hR : 6 ≤ R.frames ∧ 120 ≤ R.locals) (hfl : l.flags = pinnedFlags ++ [noTraceFlag]) (hne : c.exceptionTable.isEmpty = true) (hX : xt_Ok e s R hs z r0) (u : gw_St) (t0 : Nat) (x1 : Int32) (x2 : Int32) (x3 : Int32) (x4 : Int32) (x5 : Int32) (o_t0 : gw_ok z t0 0) {H : Heap} {locs : List Loc} {ls : Array Slot} (hW : gw_Wx D cA hs z s u H locs) (hl : lv_has ls 6 [(0, .ref (hs t0)), (1, .int x1), (2, .int x2), (3, .int x3), (4, .int x4), (5, .int x5)]) (h : gf_Desk_want_b0 F z   u t0 x1 x2 x3 x4 x5 = some r0) : gw_Ti p l e R s m args below meth c D cA hs z r0 H locs ls 0 [] := by
  obtain ⟨hx, hb, hml, hown, hts, hK⟩ := id C
  unfold gf_Desk_want_b0 at h
  refine lv_iload_n hx hb gd_Desk_want_0 rfl (lv_at hl 1 rfl) ?_
  refine lv_iconst (v := 1) hx hb gd_Desk_want_1 (by decide) ?_
  refine lv_icmp_lt (tgt := 21) hx hb gd_Desk_want_2 (by decide) (fun c1 => ?_) (fun c1 => ?_)
  · have h := gf_t c1 h
    exact gx_Desk_want_b21 F C hr hk hR hfl hne hX  u   hW (lv_sub hl [] rfl) h
  · have h := gf_f c1 h
    refine lv_iload_n hx hb gd_Desk_want_5 rfl (lv_at hl 2 rfl) ?_
    refine lv_iconst (v := 1) hx hb gd_Desk_want_6 (by decide) ?_
    refine lv_icmp_lt (tgt := 21) hx hb gd_Desk_want_7 (by decide) (fun c2 => ?_) (fun c2 => ?_)
    · have h := gf_t c2 h
      exact gx_Desk_want_b21 F C hr hk hR hfl hne hX  u   hW (lv_sub hl [] rfl) h
    · have h := gf_f c2 h
      refine lv_iload_n hx hb gd_Desk_want_10 rfl (lv_at hl 3 rfl) ?_
      refine lv_iload hx hb gd_Desk_want_11 (lv_at hl 4 rfl) ?_
      refine lv_iload hx hb gd_Desk_want_13 (lv_at hl 5 rfl) ?_
      obtain ⟨a5, u3, d4, h⟩ := gf_cl_ok h
      refine gw_callSi (As := [.int x3, .int x4, .int x5]) (rest := []) C hW (fun _ h => Or.inr h) hl.1 gm_Trains_areAllowed (gc_Trains_areAllowed l F  d4 _) gk_662 gk_663 rfl rfl ⟨(Nat.le_trans (m := 6) (Nat.le_of_ble_eq_true rfl) hR.1), (Nat.le_trans (m := 120) (Nat.le_of_ble_eq_true rfl) hR.2)⟩ ⟨Nat.zero_le _, Nat.zero_le _⟩ rfl rfl (Nat.le_of_ble_eq_true rfl) gd_Desk_want_15 (fun H locs hW => ?_)
      refine lv_if_ne (tgt := 29) hx hb gd_Desk_want_18 (by decide) (fun c6 => ?_) (fun c6 => ?_)
      · have h := gf_f c6 h
        refine lv_aload_n hx hb gd_Desk_want_29 rfl (lv_at hl 0 rfl) ?_
        obtain ⟨q7, e8, h⟩ := gf_nn_ok h
        refine gw_getr (k := 0) (ty := 1) (ref := R_Desk) C hW o_t0 (by decide) rfl gi_Desk rfl (by decide) rfl rfl gk_371 gd_Desk_want_30 e8 ?_
        have o_q7 := hW.ref (d := 1) o_t0 e8 rfl
        refine lv_iload_n hx hb gd_Desk_want_33 rfl (lv_at hl 1 rfl) ?_
        refine lv_iload_n hx hb gd_Desk_want_34 rfl (lv_at hl 2 rfl) ?_
        refine lv_iload_n hx hb gd_Desk_want_35 rfl (lv_at hl 3 rfl) ?_
        refine lv_iload hx hb gd_Desk_want_36 (lv_at hl 4 rfl) ?_
        refine lv_iload hx hb gd_Desk_want_38 (lv_at hl 5 rfl) ?_
        obtain ⟨a11, u9, d10, h⟩ := gf_cl_ok h
        refine gw_callVi (K := R_Trains) (As := [.int x1, .int x2, .int x3, .int x4, .int x5]) (rest := []) C hW (fun _ h => Or.inr h) hl.1 gm_Trains_begin (gc_Trains_begin l F o_q7 d10 _) gk_664 gk_665 gk_666 o_q7 (by decide) rfl rfl rfl ⟨(Nat.le_trans (m := 6) (Nat.le_of_ble_eq_true rfl) hR.1), (Nat.le_trans (m := 120) (Nat.le_of_ble_eq_true rfl) hR.2)⟩ ⟨Nat.zero_le _, Nat.zero_le _⟩ rfl rfl (Nat.le_of_ble_eq_true rfl) gd_Desk_want_40 (fun H locs hW => ?_)
        obtain rfl := Option.some.inj h
        exact gw_iret C hW hr hk gd_Desk_want_43
      · have h := gf_t c6 h
        exact gx_Desk_want_b21 F C hr hk hR hfl hne hX  u3   hW (lv_sub hl [] rfl) h

set_option maxRecDepth 20000 in
theorem gc_Desk_want (l : Launch) (hfl : l.flags = pinnedFlags ++ [noTraceFlag]) {D : va_G} {cA : Nat → ClassId} {hs : Nat → Nat} {z : gw_Sh} (F : Nat) {u w : gw_St} {v : Int32} {t0 : Nat} {x1 : Int32} {x2 : Int32} {x3 : Int32} {x4 : Int32} {x5 : Int32} (o_t0 : gw_ok z t0 0) (h : gf_Desk_want F z u t0 x1 x2 x3 x4 x5 = some (.inl v, w)) (sz : Nat) : gw_Mi l gy_Desk_want gb_Desk_want 6 (some .int) (gw_rm 6 120) [.ref (hs t0), .int x1, .int x2, .int x3, .int x4, .int x5] D cA hs z u sz (v, w) := by
  refine xt_enter0 (by decide) (Nat.le_of_ble_eq_true rfl) ?_
  intro p e s m below meth c ls hsz C hW hr hk hne hl
  subst hsz
  exact gx_Desk_want_b0 (e := e) (hs := hs) (z := z) (R := gw_rm 6 120) (r0 := (.inl v, w)) F C hr hk ⟨Nat.le_refl _, Nat.le_refl _⟩ hfl hne trivial u t0 x1 x2 x3 x4 x5 o_t0 hW (lv_sub hl [0, 1, 2, 3, 4, 5] rfl) h
set_option maxRecDepth 20000 in
theorem gt_Desk_want (l : Launch) (hfl : l.flags = pinnedFlags ++ [noTraceFlag]) {D : va_G} {cA : Nat → ClassId} {hs : Nat → Nat} {z : gw_Sh} (F : Nat) {u w : gw_St} {k : Nat} {t0 : Nat} {x1 : Int32} {x2 : Int32} {x3 : Int32} {x4 : Int32} {x5 : Int32} (o_t0 : gw_ok z t0 0) (h : gf_Desk_want F z u t0 x1 x2 x3 x4 x5 = some (.inr k, w)) (sz : Nat) : gw_Mt l gy_Desk_want gb_Desk_want 6 (some .int) (xt_rm 6 120) [.ref (hs t0), .int x1, .int x2, .int x3, .int x4, .int x5] D cA hs z u sz k w := by
  refine xt_enter hfl (by decide) (Nat.le_of_ble_eq_true rfl) ?_
  intro p e s m below meth c ls hsz C hW hr hk hne hZ htr hl
  exact gx_Desk_want_b0 (e := e) (hs := hs) (z := z) (R := xt_rm 6 120) (r0 := (.inr k, w)) F C hr hk ⟨Nat.le_refl _, Nat.le_refl _⟩ hfl hne ⟨htr, hZ, Nat.le_refl _, Nat.le_refl _⟩ u t0 x1 x2 x3 x4 x5 o_t0 hW (lv_sub hl [0, 1, 2, 3, 4, 5] rfl) h
-- GearDesk.search(I)Z
theorem gk_668 : Cond.constant R_Desk 95 1000000 ∈ gt_T := gt_m3 (List.mem_of_getElem? (i := 0) rfl) rfl
theorem gk_669 : Cond.methodLink R_Desk 96 gy_Trains_hasTask ∈ gt_T := gt_m3 (List.mem_of_getElem? (i := 1) rfl) rfl
theorem gk_670 : Cond.instanceMethod gy_Trains_hasTask ∈ gt_T := gt_m3 (List.mem_of_getElem? (i := 2) rfl) rfl
theorem gk_671 : Cond.selects R_Trains gy_Trains_hasTask gy_Trains_hasTask ∈ gt_T := gt_m3 (List.mem_of_getElem? (i := 3) rfl) rfl
theorem gk_672 : Cond.methodLink R_Desk 103 gy_Trains_goThrough ∈ gt_T := gt_m3 (List.mem_of_getElem? (i := 20) rfl) rfl
theorem gk_673 : Cond.instanceMethod gy_Trains_goThrough ∈ gt_T := gt_m3 (List.mem_of_getElem? (i := 21) rfl) rfl
theorem gk_674 : Cond.selects R_Trains gy_Trains_goThrough gy_Trains_goThrough ∈ gt_T := gt_m3 (List.mem_of_getElem? (i := 22) rfl) rfl
theorem gk_675 : Cond.classLink R_Desk 100 (xt_nm 2) ∈ gt_T := gt_m3 (List.mem_of_getElem? (i := 5) rfl) rfl
theorem gk_676 : Cond.instantiable (xt_nm 2) 6 ∈ gt_T := gt_m3 (List.mem_of_getElem? (i := 6) rfl) rfl
theorem gk_677 : Cond.initialized (xt_nm 2) ∈ gt_T := gt_m1 (List.mem_of_getElem? (i := 18) rfl) rfl
def gy_Desk_search : MethodName := ⟨R_Desk, "search", "(I)Z"⟩
abbrev gb_Desk_search : ByteArray := prog_1_method_3_code
theorem gk_678 : Cond.code gy_Desk_search gb_Desk_search 2 (some .boolean) ∈ gt_T := gt_m2 (List.mem_of_getElem? (i := 239) rfl) rfl
theorem gm_Desk_search : gw_Mth gy_Desk_search gb_Desk_search 2 (some .boolean) 1 := ⟨gk_678, gk_361, ⟨by decide +kernel, by decide +kernel⟩, by decide +kernel⟩
theorem gd_Desk_search_0 : decode gb_Desk_search 0 = .ok (.iload_n 1, 1) := by decide +kernel
theorem gd_Desk_search_1 : decode gb_Desk_search 1 = .ok (.iconst 1, 1) := by decide +kernel
theorem gd_Desk_search_2 : decode gb_Desk_search 2 = .ok (.if_icmp .lt 9, 3) := by decide +kernel
theorem gd_Desk_search_5 : decode gb_Desk_search 5 = .ok (.iload_n 1, 1) := by decide +kernel
theorem gd_Desk_search_6 : decode gb_Desk_search 6 = .ok (.ldc 95, 2) := by decide +kernel
theorem gd_Desk_search_8 : decode gb_Desk_search 8 = .ok (.if_icmp .le 11, 3) := by decide +kernel
theorem gd_Desk_search_11 : decode gb_Desk_search 11 = .ok (.new 88, 3) := by decide +kernel
theorem gd_Desk_search_14 : decode gb_Desk_search 14 = .ok (.dup, 1) := by decide +kernel
theorem gd_Desk_search_15 : decode gb_Desk_search 15 = .ok (.invokespecial 90, 3) := by decide +kernel
theorem gd_Desk_search_18 : decode gb_Desk_search 18 = .ok (.athrow, 1) := by decide +kernel
theorem gd_Desk_search_19 : decode gb_Desk_search 19 = .ok (.aload_n 0, 1) := by decide +kernel
theorem gd_Desk_search_20 : decode gb_Desk_search 20 = .ok (.getfield 10, 3) := by decide +kernel
theorem gd_Desk_search_23 : decode gb_Desk_search 23 = .ok (.invokevirtual 96, 3) := by decide +kernel
theorem gd_Desk_search_26 : decode gb_Desk_search 26 = .ok (.ifCond .ne 11, 3) := by decide +kernel
theorem gd_Desk_search_29 : decode gb_Desk_search 29 = .ok (.new 100, 3) := by decide +kernel
theorem gd_Desk_search_32 : decode gb_Desk_search 32 = .ok (.dup, 1) := by decide +kernel
theorem gd_Desk_search_33 : decode gb_Desk_search 33 = .ok (.invokespecial 102, 3) := by decide +kernel
theorem gd_Desk_search_36 : decode gb_Desk_search 36 = .ok (.athrow, 1) := by decide +kernel
theorem gd_Desk_search_37 : decode gb_Desk_search 37 = .ok (.aload_n 0, 1) := by decide +kernel
theorem gd_Desk_search_38 : decode gb_Desk_search 38 = .ok (.getfield 10, 3) := by decide +kernel
theorem gd_Desk_search_41 : decode gb_Desk_search 41 = .ok (.iload_n 1, 1) := by decide +kernel
theorem gd_Desk_search_42 : decode gb_Desk_search 42 = .ok (.invokevirtual 103, 3) := by decide +kernel
theorem gd_Desk_search_45 : decode gb_Desk_search 45 = .ok (.aload_n 0, 1) := by decide +kernel
theorem gd_Desk_search_46 : decode gb_Desk_search 46 = .ok (.getfield 10, 3) := by decide +kernel
theorem gd_Desk_search_49 : decode gb_Desk_search 49 = .ok (.invokevirtual 106, 3) := by decide +kernel
theorem gd_Desk_search_52 : decode gb_Desk_search 52 = .ok (.ifCond .ne 7, 3) := by decide +kernel
theorem gd_Desk_search_55 : decode gb_Desk_search 55 = .ok (.iconst 1, 1) := by decide +kernel
theorem gd_Desk_search_56 : decode gb_Desk_search 56 = .ok (.goto 4, 3) := by decide +kernel
theorem gd_Desk_search_59 : decode gb_Desk_search 59 = .ok (.iconst 0, 1) := by decide +kernel
theorem gd_Desk_search_60 : decode gb_Desk_search 60 = .ok (.ireturn, 1) := by decide +kernel
def gf_Desk_search_b11 (F : Nat) (z : gw_Sh)  (u : gw_St)  : Option ((Int32 ⊕ Nat) × gw_St) :=
  some (.inr 1, u)
def gf_Desk_search_b60 (F : Nat) (z : gw_Sh)  (u : gw_St) (sx0 : Int32) : Option ((Int32 ⊕ Nat) × gw_St) :=
  if ¬ (sx0 &&& 1 = sx0) then none else some (.inl sx0, u)
def gf_Desk_search_b0 (F : Nat) (z : gw_Sh)  (u : gw_St) (t0 : Nat) (x1 : Int32) : Option ((Int32 ⊕ Nat) × gw_St) :=
  if x1 < (1 : Int32) then (gf_Desk_search_b11 F z  u ) else (if x1 ≤ (1000000 : Int32) then (gf_nn (u.2.2 t0 0) fun q4 => gf_cl (gf_Trains_hasTask F z u q4) fun a8 u6 => if a8 = 0 then (some (.inr 2, u6)) else (gf_nn (u6.2.2 t0 0) fun q10 => (gf_Trains_goThrough F z u6 q10 x1).bind fun u12 => gf_nn (u12.2.2 t0 0) fun q14 => gf_cl (gf_Trains_choicesLeft F z u12 q14) fun a18 u16 => if a18 = 0 then (gf_Desk_search_b60 F z  u16 1) else (gf_Desk_search_b60 F z  u16 0))) else (gf_Desk_search_b11 F z  u ))
def gf_Desk_search (F : Nat) (z : gw_Sh) (u : gw_St) (t0 : Nat) (x1 : Int32) : Option ((Int32 ⊕ Nat) × gw_St) := gf_Desk_search_b0 F z  u t0 x1
set_option maxHeartbeats 4000000 in
set_option maxRecDepth 20000 in
theorem gx_Desk_search_b11 {p : Program} {l : Launch} {e : Env} {s : State} {m : MethodId} {args : Array Value} {below : List Frame} {meth : Method} {c : Code} {D : va_G} {cA : Nat → ClassId} {hs : Nat → Nat} {z : gw_Sh} (F : Nat) {r0 : ((Int32 ⊕ Nat) × gw_St)} (C : gw_Cx p s m args c gb_Desk_search 2 R_Desk D cA) (hr : meth.sig.returnType = (some .boolean)) (hk : meth.locks = false) {R : Room} (hR : 7 ≤ R.frames ∧ 217 ≤ R.locals) (hfl : l.flags = pinnedFlags ++ [noTraceFlag]) (hne : c.exceptionTable.isEmpty = true) (hX : xt_Ok e s R hs z r0) (u : gw_St)   {H : Heap} {locs : List Loc} {ls : Array Slot} (hW : gw_Wx D cA hs z s u H locs) (hl : lv_has ls 2 []) (h : gf_Desk_search_b11 F z   u  = some r0) : gw_Ti p l e R s m args below meth c D cA hs z r0 H locs ls 11 [] := by
  obtain ⟨hx, hb, hml, hown, hts, hK⟩ := id C
  unfold gf_Desk_search_b11 at h
  obtain rfl := Option.some.inj h
  have hX9 : e.platform.stackTraces = false ∧ xt_Zs (gw_A hs z s.heap.size) s s.heap ∧ 1 ≤ R.cells ∧ 6 ≤ R.slots := hX
  exact xt_throw (k := 1) C hW (fun _ h => Or.inr h) hX9.2.1 hX9.1 hl.1 hk (xt_out hne _) (by decide +kernel) xa_1 gk_659 gk_660 gk_661 gd_Desk_search_11 gd_Desk_search_14 gd_Desk_search_15 gd_Desk_search_18 (Nat.le_trans (m := 7) (Nat.le_of_ble_eq_true rfl) hR.1) (Nat.le_trans (m := 217) (Nat.le_of_ble_eq_true rfl) hR.2) hX9.2.2.1 hX9.2.2.2

set_option maxHeartbeats 4000000 in
set_option maxRecDepth 20000 in
theorem gx_Desk_search_b60 {p : Program} {l : Launch} {e : Env} {s : State} {m : MethodId} {args : Array Value} {below : List Frame} {meth : Method} {c : Code} {D : va_G} {cA : Nat → ClassId} {hs : Nat → Nat} {z : gw_Sh} (F : Nat) {r0 : ((Int32 ⊕ Nat) × gw_St)} (C : gw_Cx p s m args c gb_Desk_search 2 R_Desk D cA) (hr : meth.sig.returnType = (some .boolean)) (hk : meth.locks = false) {R : Room} (hR : 7 ≤ R.frames ∧ 217 ≤ R.locals) (hfl : l.flags = pinnedFlags ++ [noTraceFlag]) (hne : c.exceptionTable.isEmpty = true) (hX : xt_Ok e s R hs z r0) (u : gw_St) (sx0 : Int32)  {H : Heap} {locs : List Loc} {ls : Array Slot} (hW : gw_Wx D cA hs z s u H locs) (hl : lv_has ls 2 []) (h : gf_Desk_search_b60 F z   u sx0 = some r0) : gw_Ti p l e R s m args below meth c D cA hs z r0 H locs ls 60 [.int sx0] := by
  obtain ⟨hx, hb, hml, hown, hts, hK⟩ := id C
  unfold gf_Desk_search_b60 at h
  obtain ⟨g1, h⟩ := gf_if_ok h
  obtain rfl := Option.some.inj h
  exact gw_zret C hW hr (Decidable.not_not.mp g1) hk gd_Desk_search_60

set_option maxHeartbeats 4000000 in
set_option maxRecDepth 20000 in
theorem gx_Desk_search_b0 {p : Program} {l : Launch} {e : Env} {s : State} {m : MethodId} {args : Array Value} {below : List Frame} {meth : Method} {c : Code} {D : va_G} {cA : Nat → ClassId} {hs : Nat → Nat} {z : gw_Sh} (F : Nat) {r0 : ((Int32 ⊕ Nat) × gw_St)} (C : gw_Cx p s m args c gb_Desk_search 2 R_Desk D cA) (hr : meth.sig.returnType = (some .boolean)) (hk : meth.locks = false) {R : Room} (hR : 7 ≤ R.frames ∧ 217 ≤ R.locals) (hfl : l.flags = pinnedFlags ++ [noTraceFlag]) (hne : c.exceptionTable.isEmpty = true) (hX : xt_Ok e s R hs z r0) (u : gw_St) (t0 : Nat) (x1 : Int32) (o_t0 : gw_ok z t0 0) {H : Heap} {locs : List Loc} {ls : Array Slot} (hW : gw_Wx D cA hs z s u H locs) (hl : lv_has ls 2 [(0, .ref (hs t0)), (1, .int x1)]) (h : gf_Desk_search_b0 F z   u t0 x1 = some r0) : gw_Ti p l e R s m args below meth c D cA hs z r0 H locs ls 0 [] := by
  obtain ⟨hx, hb, hml, hown, hts, hK⟩ := id C
  unfold gf_Desk_search_b0 at h
  refine lv_iload_n hx hb gd_Desk_search_0 rfl (lv_at hl 1 rfl) ?_
  refine lv_iconst (v := 1) hx hb gd_Desk_search_1 (by decide) ?_
  refine lv_icmp_lt (tgt := 11) hx hb gd_Desk_search_2 (by decide) (fun c2 => ?_) (fun c2 => ?_)
  · have h := gf_t c2 h
    exact gx_Desk_search_b11 F C hr hk hR hfl hne hX  u   hW (lv_sub hl [] rfl) h
  · have h := gf_f c2 h
    refine lv_iload_n hx hb gd_Desk_search_5 rfl (lv_at hl 1 rfl) ?_
    refine lv_ldc (v := 1000000) hx hb hown (hts _ gk_668) gd_Desk_search_6 ?_
    refine lv_icmp_le (tgt := 19) hx hb gd_Desk_search_8 (by decide) (fun c3 => ?_) (fun c3 => ?_)
    · have h := gf_t c3 h
      refine lv_aload_n hx hb gd_Desk_search_19 rfl (lv_at hl 0 rfl) ?_
      obtain ⟨q4, e5, h⟩ := gf_nn_ok h
      refine gw_getr (k := 0) (ty := 1) (ref := R_Desk) C hW o_t0 (by decide) rfl gi_Desk rfl (by decide) rfl rfl gk_371 gd_Desk_search_20 e5 ?_
      have o_q4 := hW.ref (d := 1) o_t0 e5 rfl
      obtain ⟨a8, u6, d7, h⟩ := gf_cl_ok h
      refine gw_callVi (K := R_Trains) (As := []) (rest := []) C hW (fun _ h => Or.inr h) hl.1 gm_Trains_hasTask (gc_Trains_hasTask l F o_q4 d7 _) gk_669 gk_670 gk_671 o_q4 (by decide) rfl rfl rfl ⟨(Nat.le_trans (m := 7) (Nat.le_of_ble_eq_true rfl) hR.1), (Nat.le_trans (m := 217) (Nat.le_of_ble_eq_true rfl) hR.2)⟩ ⟨Nat.zero_le _, Nat.zero_le _⟩ rfl rfl (Nat.le_of_ble_eq_true rfl) gd_Desk_search_23 (fun H locs hW => ?_)
      refine lv_if_ne (tgt := 37) hx hb gd_Desk_search_26 (by decide) (fun c9 => ?_) (fun c9 => ?_)
      · have h := gf_f c9 h
        refine lv_aload_n hx hb gd_Desk_search_37 rfl (lv_at hl 0 rfl) ?_
        obtain ⟨q10, e11, h⟩ := gf_nn_ok h
        refine gw_getr (k := 0) (ty := 1) (ref := R_Desk) C hW o_t0 (by decide) rfl gi_Desk rfl (by decide) rfl rfl gk_371 gd_Desk_search_38 e11 ?_
        have o_q10 := hW.ref (d := 1) o_t0 e11 rfl
        refine lv_iload_n hx hb gd_Desk_search_41 rfl (lv_at hl 1 rfl) ?_
        obtain ⟨u12, d13, h⟩ := gf_bd_ok h
        refine gw_callVv (K := R_Trains) (As := [.int x1]) (rest := []) C hW (fun _ h => Or.inr h) hl.1 gm_Trains_goThrough (gc_Trains_goThrough l F o_q10 d13 _) gk_672 gk_673 gk_674 o_q10 (by decide) rfl rfl rfl ⟨(Nat.le_trans (m := 7) (Nat.le_of_ble_eq_true rfl) hR.1), (Nat.le_trans (m := 217) (Nat.le_of_ble_eq_true rfl) hR.2)⟩ ⟨Nat.zero_le _, Nat.zero_le _⟩ rfl rfl (Nat.le_of_ble_eq_true rfl) gd_Desk_search_42 (fun H locs hW => ?_)
        refine lv_aload_n hx hb gd_Desk_search_45 rfl (lv_at hl 0 rfl) ?_
        obtain ⟨q14, e15, h⟩ := gf_nn_ok h
        refine gw_getr (k := 0) (ty := 1) (ref := R_Desk) C hW o_t0 (by decide) rfl gi_Desk rfl (by decide) rfl rfl gk_371 gd_Desk_search_46 e15 ?_
        have o_q14 := hW.ref (d := 1) o_t0 e15 rfl
        obtain ⟨a18, u16, d17, h⟩ := gf_cl_ok h
        refine gw_callVi (K := R_Trains) (As := []) (rest := []) C hW (fun _ h => Or.inr h) hl.1 gm_Trains_choicesLeft (gc_Trains_choicesLeft l F o_q14 d17 _) gk_372 gk_373 gk_374 o_q14 (by decide) rfl rfl rfl ⟨(Nat.le_trans (m := 7) (Nat.le_of_ble_eq_true rfl) hR.1), (Nat.le_trans (m := 217) (Nat.le_of_ble_eq_true rfl) hR.2)⟩ ⟨Nat.zero_le _, Nat.zero_le _⟩ rfl rfl (Nat.le_of_ble_eq_true rfl) gd_Desk_search_49 (fun H locs hW => ?_)
        refine lv_if_ne (tgt := 59) hx hb gd_Desk_search_52 (by decide) (fun c19 => ?_) (fun c19 => ?_)
        · have h := gf_f c19 h
          refine lv_iconst (v := 0) hx hb gd_Desk_search_59 (by decide) ?_
          exact gx_Desk_search_b60 F C hr hk hR hfl hne hX  u16 0  hW (lv_sub hl [] rfl) h
        · have h := gf_t c19 h
          refine lv_iconst (v := 1) hx hb gd_Desk_search_55 (by decide) ?_
          refine lv_goto (tgt := 60) hx hb gd_Desk_search_56 (by decide) ?_
          exact gx_Desk_search_b60 F C hr hk hR hfl hne hX  u16 1  hW (lv_sub hl [] rfl) h
      · have h := gf_t c9 h
        obtain rfl := Option.some.inj h
        have hX9 : e.platform.stackTraces = false ∧ xt_Zs (gw_A hs z s.heap.size) s s.heap ∧ 1 ≤ R.cells ∧ 6 ≤ R.slots := hX
        exact xt_throw (k := 2) C hW (fun _ h => Or.inr h) hX9.2.1 hX9.1 hl.1 hk (xt_out hne _) (by decide +kernel) xa_2 gk_675 gk_676 gk_677 gd_Desk_search_29 gd_Desk_search_32 gd_Desk_search_33 gd_Desk_search_36 (Nat.le_trans (m := 7) (Nat.le_of_ble_eq_true rfl) hR.1) (Nat.le_trans (m := 217) (Nat.le_of_ble_eq_true rfl) hR.2) hX9.2.2.1 hX9.2.2.2
    · have h := gf_f c3 h
      exact gx_Desk_search_b11 F C hr hk hR hfl hne hX  u   hW (lv_sub hl [] rfl) h

set_option maxRecDepth 20000 in
theorem gc_Desk_search (l : Launch) (hfl : l.flags = pinnedFlags ++ [noTraceFlag]) {D : va_G} {cA : Nat → ClassId} {hs : Nat → Nat} {z : gw_Sh} (F : Nat) {u w : gw_St} {v : Int32} {t0 : Nat} {x1 : Int32} (o_t0 : gw_ok z t0 0) (h : gf_Desk_search F z u t0 x1 = some (.inl v, w)) (sz : Nat) : gw_Mi l gy_Desk_search gb_Desk_search 2 (some .boolean) (gw_rm 7 217) [.ref (hs t0), .int x1] D cA hs z u sz (v, w) := by
  refine xt_enter0 (by decide) (Nat.le_of_ble_eq_true rfl) ?_
  intro p e s m below meth c ls hsz C hW hr hk hne hl
  subst hsz
  exact gx_Desk_search_b0 (e := e) (hs := hs) (z := z) (R := gw_rm 7 217) (r0 := (.inl v, w)) F C hr hk ⟨Nat.le_refl _, Nat.le_refl _⟩ hfl hne trivial u t0 x1 o_t0 hW (lv_sub hl [0, 1] rfl) h
set_option maxRecDepth 20000 in
theorem gt_Desk_search (l : Launch) (hfl : l.flags = pinnedFlags ++ [noTraceFlag]) {D : va_G} {cA : Nat → ClassId} {hs : Nat → Nat} {z : gw_Sh} (F : Nat) {u w : gw_St} {k : Nat} {t0 : Nat} {x1 : Int32} (o_t0 : gw_ok z t0 0) (h : gf_Desk_search F z u t0 x1 = some (.inr k, w)) (sz : Nat) : gw_Mt l gy_Desk_search gb_Desk_search 2 (some .boolean) (xt_rm 7 217) [.ref (hs t0), .int x1] D cA hs z u sz k w := by
  refine xt_enter hfl (by decide) (Nat.le_of_ble_eq_true rfl) ?_
  intro p e s m below meth c ls hsz C hW hr hk hne hZ htr hl
  exact gx_Desk_search_b0 (e := e) (hs := hs) (z := z) (R := xt_rm 7 217) (r0 := (.inr k, w)) F C hr hk ⟨Nat.le_refl _, Nat.le_refl _⟩ hfl hne ⟨htr, hZ, Nat.le_refl _, Nat.le_refl _⟩ u t0 x1 o_t0 hW (lv_sub hl [0, 1] rfl) h
-- GearDesk.needBestTrain()V
def gy_Desk_needBestTrain : MethodName := ⟨R_Desk, "needBestTrain", "()V"⟩
abbrev gb_Desk_needBestTrain : ByteArray := prog_1_method_25_code
theorem gk_679 : Cond.code gy_Desk_needBestTrain gb_Desk_needBestTrain 1 none ∈ gt_T := gt_m4 (List.mem_of_getElem? (i := 140) rfl) rfl
theorem gm_Desk_needBestTrain : gw_Mth gy_Desk_needBestTrain gb_Desk_needBestTrain 1 none 0 := ⟨gk_679, gk_361, ⟨by decide +kernel, by decide +kernel⟩, by decide +kernel⟩
theorem gd_Desk_needBestTrain_0 : decode gb_Desk_needBestTrain 0 = .ok (.aload_n 0, 1) := by decide +kernel
theorem gd_Desk_needBestTrain_1 : decode gb_Desk_needBestTrain 1 = .ok (.getfield 10, 3) := by decide +kernel
theorem gd_Desk_needBestTrain_4 : decode gb_Desk_needBestTrain 4 = .ok (.invokevirtual 96, 3) := by decide +kernel
theorem gd_Desk_needBestTrain_7 : decode gb_Desk_needBestTrain 7 = .ok (.ifCond .eq 13, 3) := by decide +kernel
theorem gd_Desk_needBestTrain_10 : decode gb_Desk_needBestTrain 10 = .ok (.aload_n 0, 1) := by decide +kernel
theorem gd_Desk_needBestTrain_11 : decode gb_Desk_needBestTrain 11 = .ok (.getfield 10, 3) := by decide +kernel
theorem gd_Desk_needBestTrain_14 : decode gb_Desk_needBestTrain 14 = .ok (.invokevirtual 106, 3) := by decide +kernel
theorem gd_Desk_needBestTrain_17 : decode gb_Desk_needBestTrain 17 = .ok (.ifCond .le 11, 3) := by decide +kernel
theorem gd_Desk_needBestTrain_20 : decode gb_Desk_needBestTrain 20 = .ok (.new 100, 3) := by decide +kernel
theorem gd_Desk_needBestTrain_23 : decode gb_Desk_needBestTrain 23 = .ok (.dup, 1) := by decide +kernel
theorem gd_Desk_needBestTrain_24 : decode gb_Desk_needBestTrain 24 = .ok (.invokespecial 102, 3) := by decide +kernel
theorem gd_Desk_needBestTrain_27 : decode gb_Desk_needBestTrain 27 = .ok (.athrow, 1) := by decide +kernel
theorem gd_Desk_needBestTrain_28 : decode gb_Desk_needBestTrain 28 = .ok (.return_, 1) := by decide +kernel
def gf_Desk_needBestTrain_b20 (F : Nat) (z : gw_Sh)  (u : gw_St)  : Option ((Unit ⊕ Nat) × gw_St) :=
  some (.inr 2, u)
def gf_Desk_needBestTrain_b0 (F : Nat) (z : gw_Sh)  (u : gw_St) (t0 : Nat) : Option ((Unit ⊕ Nat) × gw_St) :=
  gf_nn (u.2.2 t0 0) fun q1 => gf_cl (gf_Trains_hasTask F z u q1) fun a5 u3 => if a5 = 0 then (gf_Desk_needBestTrain_b20 F z  u3 ) else (gf_nn (u3.2.2 t0 0) fun q7 => gf_cl (gf_Trains_choicesLeft F z u3 q7) fun a11 u9 => if a11 ≤ 0 then (some (.inl (), u9)) else (gf_Desk_needBestTrain_b20 F z  u9 ))
def gf_Desk_needBestTrain (F : Nat) (z : gw_Sh) (u : gw_St) (t0 : Nat) : Option ((Unit ⊕ Nat) × gw_St) := gf_Desk_needBestTrain_b0 F z  u t0
set_option maxHeartbeats 4000000 in
set_option maxRecDepth 20000 in
theorem gx_Desk_needBestTrain_b20 {p : Program} {l : Launch} {e : Env} {s : State} {m : MethodId} {args : Array Value} {below : List Frame} {meth : Method} {c : Code} {D : va_G} {cA : Nat → ClassId} {hs : Nat → Nat} {z : gw_Sh} (F : Nat) {r0 : ((Unit ⊕ Nat) × gw_St)} (C : gw_Cx p s m args c gb_Desk_needBestTrain 1 R_Desk D cA) (hr : meth.sig.returnType = none) (hk : meth.locks = false) {R : Room} (hR : 6 ≤ R.frames ∧ 120 ≤ R.locals) (hfl : l.flags = pinnedFlags ++ [noTraceFlag]) (hne : c.exceptionTable.isEmpty = true) (hX : xt_Ok e s R hs z r0) (u : gw_St)   {H : Heap} {locs : List Loc} {ls : Array Slot} (hW : gw_Wx D cA hs z s u H locs) (hl : lv_has ls 1 []) (h : gf_Desk_needBestTrain_b20 F z   u  = some r0) : gw_Tv p l e R s m args below meth c D cA hs z r0 H locs ls 20 [] := by
  obtain ⟨hx, hb, hml, hown, hts, hK⟩ := id C
  unfold gf_Desk_needBestTrain_b20 at h
  obtain rfl := Option.some.inj h
  have hX9 : e.platform.stackTraces = false ∧ xt_Zs (gw_A hs z s.heap.size) s s.heap ∧ 1 ≤ R.cells ∧ 6 ≤ R.slots := hX
  exact xt_throw (k := 2) C hW (fun _ h => Or.inr h) hX9.2.1 hX9.1 hl.1 hk (xt_out hne _) (by decide +kernel) xa_2 gk_675 gk_676 gk_677 gd_Desk_needBestTrain_20 gd_Desk_needBestTrain_23 gd_Desk_needBestTrain_24 gd_Desk_needBestTrain_27 (Nat.le_trans (m := 6) (Nat.le_of_ble_eq_true rfl) hR.1) (Nat.le_trans (m := 120) (Nat.le_of_ble_eq_true rfl) hR.2) hX9.2.2.1 hX9.2.2.2

set_option maxHeartbeats 4000000 in
set_option maxRecDepth 20000 in
theorem gx_Desk_needBestTrain_b0 {p : Program} {l : Launch} {e : Env} {s : State} {m : MethodId} {args : Array Value} {below : List Frame} {meth : Method} {c : Code} {D : va_G} {cA : Nat → ClassId} {hs : Nat → Nat} {z : gw_Sh} (F : Nat) {r0 : ((Unit ⊕ Nat) × gw_St)} (C : gw_Cx p s m args c gb_Desk_needBestTrain 1 R_Desk D cA) (hr : meth.sig.returnType = none) (hk : meth.locks = false) {R : Room} (hR : 6 ≤ R.frames ∧ 120 ≤ R.locals) (hfl : l.flags = pinnedFlags ++ [noTraceFlag]) (hne : c.exceptionTable.isEmpty = true) (hX : xt_Ok e s R hs z r0) (u : gw_St) (t0 : Nat) (o_t0 : gw_ok z t0 0) {H : Heap} {locs : List Loc} {ls : Array Slot} (hW : gw_Wx D cA hs z s u H locs) (hl : lv_has ls 1 [(0, .ref (hs t0))]) (h : gf_Desk_needBestTrain_b0 F z   u t0 = some r0) : gw_Tv p l e R s m args below meth c D cA hs z r0 H locs ls 0 [] := by
  obtain ⟨hx, hb, hml, hown, hts, hK⟩ := id C
  unfold gf_Desk_needBestTrain_b0 at h
  refine lv_aload_n hx hb gd_Desk_needBestTrain_0 rfl (lv_at hl 0 rfl) ?_
  obtain ⟨q1, e2, h⟩ := gf_nn_ok h
  refine gw_getr (k := 0) (ty := 1) (ref := R_Desk) C hW o_t0 (by decide) rfl gi_Desk rfl (by decide) rfl rfl gk_371 gd_Desk_needBestTrain_1 e2 ?_
  have o_q1 := hW.ref (d := 1) o_t0 e2 rfl
  obtain ⟨a5, u3, d4, h⟩ := gf_cl_ok h
  refine gw_callVi (K := R_Trains) (As := []) (rest := []) C hW (fun _ h => Or.inr h) hl.1 gm_Trains_hasTask (gc_Trains_hasTask l F o_q1 d4 _) gk_669 gk_670 gk_671 o_q1 (by decide) rfl rfl rfl ⟨(Nat.le_trans (m := 6) (Nat.le_of_ble_eq_true rfl) hR.1), (Nat.le_trans (m := 120) (Nat.le_of_ble_eq_true rfl) hR.2)⟩ ⟨Nat.zero_le _, Nat.zero_le _⟩ rfl rfl (Nat.le_of_ble_eq_true rfl) gd_Desk_needBestTrain_4 (fun H locs hW => ?_)
  refine lv_if_eq (tgt := 20) hx hb gd_Desk_needBestTrain_7 (by decide) (fun c6 => ?_) (fun c6 => ?_)
  · have h := gf_t c6 h
    exact gx_Desk_needBestTrain_b20 F C hr hk hR hfl hne hX  u3   hW (lv_sub hl [] rfl) h
  · have h := gf_f c6 h
    refine lv_aload_n hx hb gd_Desk_needBestTrain_10 rfl (lv_at hl 0 rfl) ?_
    obtain ⟨q7, e8, h⟩ := gf_nn_ok h
    refine gw_getr (k := 0) (ty := 1) (ref := R_Desk) C hW o_t0 (by decide) rfl gi_Desk rfl (by decide) rfl rfl gk_371 gd_Desk_needBestTrain_11 e8 ?_
    have o_q7 := hW.ref (d := 1) o_t0 e8 rfl
    obtain ⟨a11, u9, d10, h⟩ := gf_cl_ok h
    refine gw_callVi (K := R_Trains) (As := []) (rest := []) C hW (fun _ h => Or.inr h) hl.1 gm_Trains_choicesLeft (gc_Trains_choicesLeft l F o_q7 d10 _) gk_372 gk_373 gk_374 o_q7 (by decide) rfl rfl rfl ⟨(Nat.le_trans (m := 6) (Nat.le_of_ble_eq_true rfl) hR.1), (Nat.le_trans (m := 120) (Nat.le_of_ble_eq_true rfl) hR.2)⟩ ⟨Nat.zero_le _, Nat.zero_le _⟩ rfl rfl (Nat.le_of_ble_eq_true rfl) gd_Desk_needBestTrain_14 (fun H locs hW => ?_)
    refine lv_if_le (tgt := 28) hx hb gd_Desk_needBestTrain_17 (by decide) (fun c12 => ?_) (fun c12 => ?_)
    · have h := gf_t c12 h
      obtain rfl := Option.some.inj h
      exact gw_vret C hW hr hk gd_Desk_needBestTrain_28
    · have h := gf_f c12 h
      exact gx_Desk_needBestTrain_b20 F C hr hk hR hfl hne hX  u9   hW (lv_sub hl [] rfl) h

set_option maxRecDepth 20000 in
theorem gc_Desk_needBestTrain (l : Launch) (hfl : l.flags = pinnedFlags ++ [noTraceFlag]) {D : va_G} {cA : Nat → ClassId} {hs : Nat → Nat} {z : gw_Sh} (F : Nat) {u w : gw_St}  {t0 : Nat} (o_t0 : gw_ok z t0 0) (h : gf_Desk_needBestTrain F z u t0 = some (.inl (), w)) (sz : Nat) : gw_Mv l gy_Desk_needBestTrain gb_Desk_needBestTrain 1 none (gw_rm 6 120) [.ref (hs t0)] D cA hs z u sz w := by
  refine xt_enter0 (by decide) (Nat.le_of_ble_eq_true rfl) ?_
  intro p e s m below meth c ls hsz C hW hr hk hne hl
  subst hsz
  exact gx_Desk_needBestTrain_b0 (e := e) (hs := hs) (z := z) (R := gw_rm 6 120) (r0 := (.inl (), w)) F C hr hk ⟨Nat.le_refl _, Nat.le_refl _⟩ hfl hne trivial u t0 o_t0 hW (lv_sub hl [0] rfl) h
set_option maxRecDepth 20000 in
theorem gt_Desk_needBestTrain (l : Launch) (hfl : l.flags = pinnedFlags ++ [noTraceFlag]) {D : va_G} {cA : Nat → ClassId} {hs : Nat → Nat} {z : gw_Sh} (F : Nat) {u w : gw_St} {k : Nat} {t0 : Nat} (o_t0 : gw_ok z t0 0) (h : gf_Desk_needBestTrain F z u t0 = some (.inr k, w)) (sz : Nat) : gw_Mt l gy_Desk_needBestTrain gb_Desk_needBestTrain 1 none (xt_rm 6 120) [.ref (hs t0)] D cA hs z u sz k w := by
  refine xt_enter hfl (by decide) (Nat.le_of_ble_eq_true rfl) ?_
  intro p e s m below meth c ls hsz C hW hr hk hne hZ htr hl
  exact gx_Desk_needBestTrain_b0 (e := e) (hs := hs) (z := z) (R := xt_rm 6 120) (r0 := (.inr k, w)) F C hr hk ⟨Nat.le_refl _, Nat.le_refl _⟩ hfl hne ⟨htr, hZ, Nat.le_refl _, Nat.le_refl _⟩ u t0 o_t0 hW (lv_sub hl [0] rfl) h
-- GearDesk.tooth(II)I
theorem gk_680 : Cond.classLink R_Desk 117 (xt_nm 3) ∈ gt_T := gt_m4 (List.mem_of_getElem? (i := 141) rfl) rfl
theorem gk_681 : Cond.instantiable (xt_nm 3) 6 ∈ gt_T := gt_m4 (List.mem_of_getElem? (i := 142) rfl) rfl
theorem gk_682 : Cond.initialized (xt_nm 3) ∈ gt_T := gt_m1 (List.mem_of_getElem? (i := 28) rfl) rfl
theorem gk_683 : Cond.methodLink R_Desk 110 gy_Desk_needBestTrain ∈ gt_T := gt_m4 (List.mem_of_getElem? (i := 137) rfl) rfl
theorem gk_684 : Cond.instanceMethod gy_Desk_needBestTrain ∈ gt_T := gt_m4 (List.mem_of_getElem? (i := 139) rfl) rfl
theorem gk_685 : Cond.selects R_Desk gy_Desk_needBestTrain gy_Desk_needBestTrain ∈ gt_T := gt_p1 (List.mem_of_getElem? (i := 14) rfl) rfl
theorem gk_686 : Cond.fieldLink R_Desk 113 R_Trains "stages" "I" ∈ gt_T := gt_m1 (List.mem_of_getElem? (i := 53) rfl) rfl
theorem gk_687 : Cond.methodLink R_Desk 120 gy_Trains_bestWheel ∈ gt_T := gt_m4 (List.mem_of_getElem? (i := 156) rfl) rfl
theorem gk_688 : Cond.instanceMethod gy_Trains_bestWheel ∈ gt_T := gt_m4 (List.mem_of_getElem? (i := 157) rfl) rfl
theorem gk_689 : Cond.selects R_Trains gy_Trains_bestWheel gy_Trains_bestWheel ∈ gt_T := gt_m4 (List.mem_of_getElem? (i := 158) rfl) rfl
def gy_Desk_tooth : MethodName := ⟨R_Desk, "tooth", "(II)I"⟩
abbrev gb_Desk_tooth : ByteArray := prog_1_method_4_code
theorem gk_690 : Cond.code gy_Desk_tooth gb_Desk_tooth 3 (some .int) ∈ gt_T := gt_m4 (List.mem_of_getElem? (i := 136) rfl) rfl
theorem gm_Desk_tooth : gw_Mth gy_Desk_tooth gb_Desk_tooth 3 (some .int) 2 := ⟨gk_690, gk_361, ⟨by decide +kernel, by decide +kernel⟩, by decide +kernel⟩
theorem gd_Desk_tooth_0 : decode gb_Desk_tooth 0 = .ok (.aload_n 0, 1) := by decide +kernel
theorem gd_Desk_tooth_1 : decode gb_Desk_tooth 1 = .ok (.invokevirtual 110, 3) := by decide +kernel
theorem gd_Desk_tooth_4 : decode gb_Desk_tooth 4 = .ok (.iload_n 1, 1) := by decide +kernel
theorem gd_Desk_tooth_5 : decode gb_Desk_tooth 5 = .ok (.ifCond .lt 23, 3) := by decide +kernel
theorem gd_Desk_tooth_8 : decode gb_Desk_tooth 8 = .ok (.iload_n 1, 1) := by decide +kernel
theorem gd_Desk_tooth_9 : decode gb_Desk_tooth 9 = .ok (.aload_n 0, 1) := by decide +kernel
theorem gd_Desk_tooth_10 : decode gb_Desk_tooth 10 = .ok (.getfield 10, 3) := by decide +kernel
theorem gd_Desk_tooth_13 : decode gb_Desk_tooth 13 = .ok (.getfield 113, 3) := by decide +kernel
theorem gd_Desk_tooth_16 : decode gb_Desk_tooth 16 = .ok (.if_icmp .ge 12, 3) := by decide +kernel
theorem gd_Desk_tooth_19 : decode gb_Desk_tooth 19 = .ok (.iload_n 2, 1) := by decide +kernel
theorem gd_Desk_tooth_20 : decode gb_Desk_tooth 20 = .ok (.ifCond .lt 8, 3) := by decide +kernel
theorem gd_Desk_tooth_23 : decode gb_Desk_tooth 23 = .ok (.iload_n 2, 1) := by decide +kernel
theorem gd_Desk_tooth_24 : decode gb_Desk_tooth 24 = .ok (.iconst 1, 1) := by decide +kernel
theorem gd_Desk_tooth_25 : decode gb_Desk_tooth 25 = .ok (.if_icmp .le 11, 3) := by decide +kernel
theorem gd_Desk_tooth_28 : decode gb_Desk_tooth 28 = .ok (.new 117, 3) := by decide +kernel
theorem gd_Desk_tooth_31 : decode gb_Desk_tooth 31 = .ok (.dup, 1) := by decide +kernel
theorem gd_Desk_tooth_32 : decode gb_Desk_tooth 32 = .ok (.invokespecial 119, 3) := by decide +kernel
theorem gd_Desk_tooth_35 : decode gb_Desk_tooth 35 = .ok (.athrow, 1) := by decide +kernel
theorem gd_Desk_tooth_36 : decode gb_Desk_tooth 36 = .ok (.aload_n 0, 1) := by decide +kernel
theorem gd_Desk_tooth_37 : decode gb_Desk_tooth 37 = .ok (.getfield 10, 3) := by decide +kernel
theorem gd_Desk_tooth_40 : decode gb_Desk_tooth 40 = .ok (.iload_n 1, 1) := by decide +kernel
theorem gd_Desk_tooth_41 : decode gb_Desk_tooth 41 = .ok (.iload_n 2, 1) := by decide +kernel
theorem gd_Desk_tooth_42 : decode gb_Desk_tooth 42 = .ok (.invokevirtual 120, 3) := by decide +kernel
theorem gd_Desk_tooth_45 : decode gb_Desk_tooth 45 = .ok (.ireturn, 1) := by decide +kernel
def gf_Desk_tooth_b28 (F : Nat) (z : gw_Sh)  (u : gw_St)  : Option ((Int32 ⊕ Nat) × gw_St) :=
  some (.inr 3, u)
def gf_Desk_tooth_b0 (F : Nat) (z : gw_Sh)  (u : gw_St) (t0 : Nat) (x1 : Int32) (x2 : Int32) : Option ((Int32 ⊕ Nat) × gw_St) :=
  gf_ct (gf_Desk_needBestTrain F z u t0) fun a3 u1 => if x1 < 0 then (gf_Desk_tooth_b28 F z  u1 ) else (gf_nn (u1.2.2 t0 0) fun q6 => if (u1.1 q6 6) ≤ x1 then (gf_Desk_tooth_b28 F z  u1 ) else (if x2 < 0 then (gf_Desk_tooth_b28 F z  u1 ) else (if x2 ≤ (1 : Int32) then (gf_nn (u1.2.2 t0 0) fun q11 => gf_cl (gf_Trains_bestWheel F z u1 q11 x1 x2) fun a15 u13 => some (.inl a15, u13)) else (gf_Desk_tooth_b28 F z  u1 ))))
def gf_Desk_tooth (F : Nat) (z : gw_Sh) (u : gw_St) (t0 : Nat) (x1 : Int32) (x2 : Int32) : Option ((Int32 ⊕ Nat) × gw_St) := gf_Desk_tooth_b0 F z  u t0 x1 x2
set_option maxHeartbeats 4000000 in
set_option maxRecDepth 20000 in
theorem gx_Desk_tooth_b28 {p : Program} {l : Launch} {e : Env} {s : State} {m : MethodId} {args : Array Value} {below : List Frame} {meth : Method} {c : Code} {D : va_G} {cA : Nat → ClassId} {hs : Nat → Nat} {z : gw_Sh} (F : Nat) {r0 : ((Int32 ⊕ Nat) × gw_St)} (C : gw_Cx p s m args c gb_Desk_tooth 3 R_Desk D cA) (hr : meth.sig.returnType = (some .int)) (hk : meth.locks = false) {R : Room} (hR : 7 ≤ R.frames ∧ 140 ≤ R.locals) (hfl : l.flags = pinnedFlags ++ [noTraceFlag]) (hne : c.exceptionTable.isEmpty = true) (hX : xt_Ok e s R hs z r0) (u : gw_St)   {H : Heap} {locs : List Loc} {ls : Array Slot} (hW : gw_Wx D cA hs z s u H locs) (hl : lv_has ls 3 []) (h : gf_Desk_tooth_b28 F z   u  = some r0) : gw_Ti p l e R s m args below meth c D cA hs z r0 H locs ls 28 [] := by
  obtain ⟨hx, hb, hml, hown, hts, hK⟩ := id C
  unfold gf_Desk_tooth_b28 at h
  obtain rfl := Option.some.inj h
  have hX9 : e.platform.stackTraces = false ∧ xt_Zs (gw_A hs z s.heap.size) s s.heap ∧ 1 ≤ R.cells ∧ 6 ≤ R.slots := hX
  exact xt_throw (k := 3) C hW (fun _ h => Or.inr h) hX9.2.1 hX9.1 hl.1 hk (xt_out hne _) (by decide +kernel) xa_3 gk_680 gk_681 gk_682 gd_Desk_tooth_28 gd_Desk_tooth_31 gd_Desk_tooth_32 gd_Desk_tooth_35 (Nat.le_trans (m := 7) (Nat.le_of_ble_eq_true rfl) hR.1) (Nat.le_trans (m := 140) (Nat.le_of_ble_eq_true rfl) hR.2) hX9.2.2.1 hX9.2.2.2

set_option maxHeartbeats 4000000 in
set_option maxRecDepth 20000 in
theorem gx_Desk_tooth_b0 {p : Program} {l : Launch} {e : Env} {s : State} {m : MethodId} {args : Array Value} {below : List Frame} {meth : Method} {c : Code} {D : va_G} {cA : Nat → ClassId} {hs : Nat → Nat} {z : gw_Sh} (F : Nat) {r0 : ((Int32 ⊕ Nat) × gw_St)} (C : gw_Cx p s m args c gb_Desk_tooth 3 R_Desk D cA) (hr : meth.sig.returnType = (some .int)) (hk : meth.locks = false) {R : Room} (hR : 7 ≤ R.frames ∧ 140 ≤ R.locals) (hfl : l.flags = pinnedFlags ++ [noTraceFlag]) (hne : c.exceptionTable.isEmpty = true) (hX : xt_Ok e s R hs z r0) (u : gw_St) (t0 : Nat) (x1 : Int32) (x2 : Int32) (o_t0 : gw_ok z t0 0) {H : Heap} {locs : List Loc} {ls : Array Slot} (hW : gw_Wx D cA hs z s u H locs) (hl : lv_has ls 3 [(0, .ref (hs t0)), (1, .int x1), (2, .int x2)]) (h : gf_Desk_tooth_b0 F z   u t0 x1 x2 = some r0) : gw_Ti p l e R s m args below meth c D cA hs z r0 H locs ls 0 [] := by
  obtain ⟨hx, hb, hml, hown, hts, hK⟩ := id C
  unfold gf_Desk_tooth_b0 at h
  refine lv_aload_n hx hb gd_Desk_tooth_0 rfl (lv_at hl 0 rfl) ?_
  rcases gf_ct_ok h with ⟨k4, u1, d2, rfl⟩ | ⟨a3, u1, d2, h⟩
  · have hX9 : e.platform.stackTraces = false ∧ xt_Zs (gw_A hs z s.heap.size) s s.heap ∧ 1 ≤ R.cells ∧ 6 ≤ R.slots := hX
    exact xt_prop (K := R_Desk) (As := []) (rest := []) C hW (fun _ h => Or.inr h) hX9.2.1 hl.1 hk hne gm_Desk_needBestTrain (gt_Desk_needBestTrain l hfl F o_t0 d2 _) gk_683 gk_684 gk_685 o_t0 (by decide) rfl rfl rfl ⟨(Nat.le_trans (m := 7) (Nat.le_of_ble_eq_true rfl) hR.1), (Nat.le_trans (m := 140) (Nat.le_of_ble_eq_true rfl) hR.2)⟩ hX9.2.2 rfl rfl (Nat.le_of_ble_eq_true rfl) gd_Desk_tooth_1
  refine gw_callVv (K := R_Desk) (As := []) (rest := []) C hW (fun _ h => Or.inr h) hl.1 gm_Desk_needBestTrain (gc_Desk_needBestTrain l hfl F o_t0 d2 _) gk_683 gk_684 gk_685 o_t0 (by decide) rfl rfl rfl ⟨(Nat.le_trans (m := 7) (Nat.le_of_ble_eq_true rfl) hR.1), (Nat.le_trans (m := 140) (Nat.le_of_ble_eq_true rfl) hR.2)⟩ ⟨Nat.zero_le _, Nat.zero_le _⟩ rfl rfl (Nat.le_of_ble_eq_true rfl) gd_Desk_tooth_1 (fun H locs hW => ?_)
  refine lv_iload_n hx hb gd_Desk_tooth_4 rfl (lv_at hl 1 rfl) ?_
  refine lv_if_lt (tgt := 28) hx hb gd_Desk_tooth_5 (by decide) (fun c5 => ?_) (fun c5 => ?_)
  · have h := gf_t c5 h
    exact gx_Desk_tooth_b28 F C hr hk hR hfl hne hX  u1   hW (lv_sub hl [] rfl) h
  · have h := gf_f c5 h
    refine lv_iload_n hx hb gd_Desk_tooth_8 rfl (lv_at hl 1 rfl) ?_
    refine lv_aload_n hx hb gd_Desk_tooth_9 rfl (lv_at hl 0 rfl) ?_
    obtain ⟨q6, e7, h⟩ := gf_nn_ok h
    refine gw_getr (k := 0) (ty := 1) (ref := R_Desk) C hW o_t0 (by decide) rfl gi_Desk rfl (by decide) rfl rfl gk_371 gd_Desk_tooth_10 e7 ?_
    have o_q6 := hW.ref (d := 1) o_t0 e7 rfl
    refine gw_geti (k := 6) (ref := R_Trains) C hW o_q6 (by decide) rfl gi_Trains rfl (by decide) rfl rfl gk_686 gd_Desk_tooth_13 ?_
    refine lv_icmp_ge (tgt := 28) hx hb gd_Desk_tooth_16 (by decide) (fun c8 => ?_) (fun c8 => ?_)
    · have h := gf_t c8 h
      exact gx_Desk_tooth_b28 F C hr hk hR hfl hne hX  u1   hW (lv_sub hl [] rfl) h
    · have h := gf_f c8 h
      refine lv_iload_n hx hb gd_Desk_tooth_19 rfl (lv_at hl 2 rfl) ?_
      refine lv_if_lt (tgt := 28) hx hb gd_Desk_tooth_20 (by decide) (fun c9 => ?_) (fun c9 => ?_)
      · have h := gf_t c9 h
        exact gx_Desk_tooth_b28 F C hr hk hR hfl hne hX  u1   hW (lv_sub hl [] rfl) h
      · have h := gf_f c9 h
        refine lv_iload_n hx hb gd_Desk_tooth_23 rfl (lv_at hl 2 rfl) ?_
        refine lv_iconst (v := 1) hx hb gd_Desk_tooth_24 (by decide) ?_
        refine lv_icmp_le (tgt := 36) hx hb gd_Desk_tooth_25 (by decide) (fun c10 => ?_) (fun c10 => ?_)
        · have h := gf_t c10 h
          refine lv_aload_n hx hb gd_Desk_tooth_36 rfl (lv_at hl 0 rfl) ?_
          obtain ⟨q11, e12, h⟩ := gf_nn_ok h
          refine gw_getr (k := 0) (ty := 1) (ref := R_Desk) C hW o_t0 (by decide) rfl gi_Desk rfl (by decide) rfl rfl gk_371 gd_Desk_tooth_37 e12 ?_
          have o_q11 := hW.ref (d := 1) o_t0 e12 rfl
          refine lv_iload_n hx hb gd_Desk_tooth_40 rfl (lv_at hl 1 rfl) ?_
          refine lv_iload_n hx hb gd_Desk_tooth_41 rfl (lv_at hl 2 rfl) ?_
          obtain ⟨a15, u13, d14, h⟩ := gf_cl_ok h
          refine gw_callVi (K := R_Trains) (As := [.int x1, .int x2]) (rest := []) C hW (fun _ h => Or.inr h) hl.1 gm_Trains_bestWheel (gc_Trains_bestWheel l F o_q11 d14 _) gk_687 gk_688 gk_689 o_q11 (by decide) rfl rfl rfl ⟨(Nat.le_trans (m := 7) (Nat.le_of_ble_eq_true rfl) hR.1), (Nat.le_trans (m := 140) (Nat.le_of_ble_eq_true rfl) hR.2)⟩ ⟨Nat.zero_le _, Nat.zero_le _⟩ rfl rfl (Nat.le_of_ble_eq_true rfl) gd_Desk_tooth_42 (fun H locs hW => ?_)
          obtain rfl := Option.some.inj h
          exact gw_iret C hW hr hk gd_Desk_tooth_45
        · have h := gf_f c10 h
          exact gx_Desk_tooth_b28 F C hr hk hR hfl hne hX  u1   hW (lv_sub hl [] rfl) h

set_option maxRecDepth 20000 in
theorem gc_Desk_tooth (l : Launch) (hfl : l.flags = pinnedFlags ++ [noTraceFlag]) {D : va_G} {cA : Nat → ClassId} {hs : Nat → Nat} {z : gw_Sh} (F : Nat) {u w : gw_St} {v : Int32} {t0 : Nat} {x1 : Int32} {x2 : Int32} (o_t0 : gw_ok z t0 0) (h : gf_Desk_tooth F z u t0 x1 x2 = some (.inl v, w)) (sz : Nat) : gw_Mi l gy_Desk_tooth gb_Desk_tooth 3 (some .int) (gw_rm 7 140) [.ref (hs t0), .int x1, .int x2] D cA hs z u sz (v, w) := by
  refine xt_enter0 (by decide) (Nat.le_of_ble_eq_true rfl) ?_
  intro p e s m below meth c ls hsz C hW hr hk hne hl
  subst hsz
  exact gx_Desk_tooth_b0 (e := e) (hs := hs) (z := z) (R := gw_rm 7 140) (r0 := (.inl v, w)) F C hr hk ⟨Nat.le_refl _, Nat.le_refl _⟩ hfl hne trivial u t0 x1 x2 o_t0 hW (lv_sub hl [0, 1, 2] rfl) h
set_option maxRecDepth 20000 in
theorem gt_Desk_tooth (l : Launch) (hfl : l.flags = pinnedFlags ++ [noTraceFlag]) {D : va_G} {cA : Nat → ClassId} {hs : Nat → Nat} {z : gw_Sh} (F : Nat) {u w : gw_St} {k : Nat} {t0 : Nat} {x1 : Int32} {x2 : Int32} (o_t0 : gw_ok z t0 0) (h : gf_Desk_tooth F z u t0 x1 x2 = some (.inr k, w)) (sz : Nat) : gw_Mt l gy_Desk_tooth gb_Desk_tooth 3 (some .int) (xt_rm 7 140) [.ref (hs t0), .int x1, .int x2] D cA hs z u sz k w := by
  refine xt_enter hfl (by decide) (Nat.le_of_ble_eq_true rfl) ?_
  intro p e s m below meth c ls hsz C hW hr hk hne hZ htr hl
  exact gx_Desk_tooth_b0 (e := e) (hs := hs) (z := z) (R := xt_rm 7 140) (r0 := (.inr k, w)) F C hr hk ⟨Nat.le_refl _, Nat.le_refl _⟩ hfl hne ⟨htr, hZ, Nat.le_refl _, Nat.le_refl _⟩ u t0 x1 x2 o_t0 hW (lv_sub hl [0, 1, 2] rfl) h
-- GearDesk.error(I)J
theorem gk_691 : Cond.methodLink R_Desk 124 gy_Trains_bestError ∈ gt_T := gt_m4 (List.mem_of_getElem? (i := 167) rfl) rfl
theorem gk_692 : Cond.instanceMethod gy_Trains_bestError ∈ gt_T := gt_m4 (List.mem_of_getElem? (i := 168) rfl) rfl
theorem gk_693 : Cond.selects R_Trains gy_Trains_bestError gy_Trains_bestError ∈ gt_T := gt_m4 (List.mem_of_getElem? (i := 169) rfl) rfl
def gy_Desk_error : MethodName := ⟨R_Desk, "error", "(I)J"⟩
abbrev gb_Desk_error : ByteArray := prog_1_method_5_code
theorem gk_694 : Cond.code gy_Desk_error gb_Desk_error 2 (some .long) ∈ gt_T := gt_m4 (List.mem_of_getElem? (i := 166) rfl) rfl
theorem gm_Desk_error : gw_Mth gy_Desk_error gb_Desk_error 2 (some .long) 1 := ⟨gk_694, gk_361, ⟨by decide +kernel, by decide +kernel⟩, by decide +kernel⟩
theorem gd_Desk_error_0 : decode gb_Desk_error 0 = .ok (.aload_n 0, 1) := by decide +kernel
theorem gd_Desk_error_1 : decode gb_Desk_error 1 = .ok (.invokevirtual 110, 3) := by decide +kernel
theorem gd_Desk_error_4 : decode gb_Desk_error 4 = .ok (.iload_n 1, 1) := by decide +kernel
theorem gd_Desk_error_5 : decode gb_Desk_error 5 = .ok (.ifCond .lt 8, 3) := by decide +kernel
theorem gd_Desk_error_8 : decode gb_Desk_error 8 = .ok (.iload_n 1, 1) := by decide +kernel
theorem gd_Desk_error_9 : decode gb_Desk_error 9 = .ok (.iconst 1, 1) := by decide +kernel
theorem gd_Desk_error_10 : decode gb_Desk_error 10 = .ok (.if_icmp .le 11, 3) := by decide +kernel
theorem gd_Desk_error_13 : decode gb_Desk_error 13 = .ok (.new 117, 3) := by decide +kernel
theorem gd_Desk_error_16 : decode gb_Desk_error 16 = .ok (.dup, 1) := by decide +kernel
theorem gd_Desk_error_17 : decode gb_Desk_error 17 = .ok (.invokespecial 119, 3) := by decide +kernel
theorem gd_Desk_error_20 : decode gb_Desk_error 20 = .ok (.athrow, 1) := by decide +kernel
theorem gd_Desk_error_21 : decode gb_Desk_error 21 = .ok (.aload_n 0, 1) := by decide +kernel
theorem gd_Desk_error_22 : decode gb_Desk_error 22 = .ok (.getfield 10, 3) := by decide +kernel
theorem gd_Desk_error_25 : decode gb_Desk_error 25 = .ok (.iload_n 1, 1) := by decide +kernel
theorem gd_Desk_error_26 : decode gb_Desk_error 26 = .ok (.invokevirtual 124, 3) := by decide +kernel
theorem gd_Desk_error_29 : decode gb_Desk_error 29 = .ok (.lreturn, 1) := by decide +kernel
def gf_Desk_error_b13 (F : Nat) (z : gw_Sh)  (u : gw_St)  : Option ((Int64 ⊕ Nat) × gw_St) :=
  some (.inr 3, u)
def gf_Desk_error_b0 (F : Nat) (z : gw_Sh)  (u : gw_St) (t0 : Nat) (x1 : Int32) : Option ((Int64 ⊕ Nat) × gw_St) :=
  gf_ct (gf_Desk_needBestTrain F z u t0) fun a3 u1 => if x1 < 0 then (gf_Desk_error_b13 F z  u1 ) else (if x1 ≤ (1 : Int32) then (gf_nn (u1.2.2 t0 0) fun q7 => gf_cl (gf_Trains_bestError F z u1 q7 x1) fun a11 u9 => some (.inl a11, u9)) else (gf_Desk_error_b13 F z  u1 ))
def gf_Desk_error (F : Nat) (z : gw_Sh) (u : gw_St) (t0 : Nat) (x1 : Int32) : Option ((Int64 ⊕ Nat) × gw_St) := gf_Desk_error_b0 F z  u t0 x1
set_option maxHeartbeats 4000000 in
set_option maxRecDepth 20000 in
theorem gx_Desk_error_b13 {p : Program} {l : Launch} {e : Env} {s : State} {m : MethodId} {args : Array Value} {below : List Frame} {meth : Method} {c : Code} {D : va_G} {cA : Nat → ClassId} {hs : Nat → Nat} {z : gw_Sh} (F : Nat) {r0 : ((Int64 ⊕ Nat) × gw_St)} (C : gw_Cx p s m args c gb_Desk_error 2 R_Desk D cA) (hr : meth.sig.returnType = (some .long)) (hk : meth.locks = false) {R : Room} (hR : 7 ≤ R.frames ∧ 140 ≤ R.locals) (hfl : l.flags = pinnedFlags ++ [noTraceFlag]) (hne : c.exceptionTable.isEmpty = true) (hX : xt_Ok e s R hs z r0) (u : gw_St)   {H : Heap} {locs : List Loc} {ls : Array Slot} (hW : gw_Wx D cA hs z s u H locs) (hl : lv_has ls 2 []) (h : gf_Desk_error_b13 F z   u  = some r0) : gw_Tl p l e R s m args below meth c D cA hs z r0 H locs ls 13 [] := by
  obtain ⟨hx, hb, hml, hown, hts, hK⟩ := id C
  unfold gf_Desk_error_b13 at h
  obtain rfl := Option.some.inj h
  have hX9 : e.platform.stackTraces = false ∧ xt_Zs (gw_A hs z s.heap.size) s s.heap ∧ 1 ≤ R.cells ∧ 6 ≤ R.slots := hX
  exact xt_throw (k := 3) C hW (fun _ h => Or.inr h) hX9.2.1 hX9.1 hl.1 hk (xt_out hne _) (by decide +kernel) xa_3 gk_680 gk_681 gk_682 gd_Desk_error_13 gd_Desk_error_16 gd_Desk_error_17 gd_Desk_error_20 (Nat.le_trans (m := 7) (Nat.le_of_ble_eq_true rfl) hR.1) (Nat.le_trans (m := 140) (Nat.le_of_ble_eq_true rfl) hR.2) hX9.2.2.1 hX9.2.2.2

set_option maxHeartbeats 4000000 in
set_option maxRecDepth 20000 in
theorem gx_Desk_error_b0 {p : Program} {l : Launch} {e : Env} {s : State} {m : MethodId} {args : Array Value} {below : List Frame} {meth : Method} {c : Code} {D : va_G} {cA : Nat → ClassId} {hs : Nat → Nat} {z : gw_Sh} (F : Nat) {r0 : ((Int64 ⊕ Nat) × gw_St)} (C : gw_Cx p s m args c gb_Desk_error 2 R_Desk D cA) (hr : meth.sig.returnType = (some .long)) (hk : meth.locks = false) {R : Room} (hR : 7 ≤ R.frames ∧ 140 ≤ R.locals) (hfl : l.flags = pinnedFlags ++ [noTraceFlag]) (hne : c.exceptionTable.isEmpty = true) (hX : xt_Ok e s R hs z r0) (u : gw_St) (t0 : Nat) (x1 : Int32) (o_t0 : gw_ok z t0 0) {H : Heap} {locs : List Loc} {ls : Array Slot} (hW : gw_Wx D cA hs z s u H locs) (hl : lv_has ls 2 [(0, .ref (hs t0)), (1, .int x1)]) (h : gf_Desk_error_b0 F z   u t0 x1 = some r0) : gw_Tl p l e R s m args below meth c D cA hs z r0 H locs ls 0 [] := by
  obtain ⟨hx, hb, hml, hown, hts, hK⟩ := id C
  unfold gf_Desk_error_b0 at h
  refine lv_aload_n hx hb gd_Desk_error_0 rfl (lv_at hl 0 rfl) ?_
  rcases gf_ct_ok h with ⟨k4, u1, d2, rfl⟩ | ⟨a3, u1, d2, h⟩
  · have hX9 : e.platform.stackTraces = false ∧ xt_Zs (gw_A hs z s.heap.size) s s.heap ∧ 1 ≤ R.cells ∧ 6 ≤ R.slots := hX
    exact xt_prop (K := R_Desk) (As := []) (rest := []) C hW (fun _ h => Or.inr h) hX9.2.1 hl.1 hk hne gm_Desk_needBestTrain (gt_Desk_needBestTrain l hfl F o_t0 d2 _) gk_683 gk_684 gk_685 o_t0 (by decide) rfl rfl rfl ⟨(Nat.le_trans (m := 7) (Nat.le_of_ble_eq_true rfl) hR.1), (Nat.le_trans (m := 140) (Nat.le_of_ble_eq_true rfl) hR.2)⟩ hX9.2.2 rfl rfl (Nat.le_of_ble_eq_true rfl) gd_Desk_error_1
  refine gw_callVv (K := R_Desk) (As := []) (rest := []) C hW (fun _ h => Or.inr h) hl.1 gm_Desk_needBestTrain (gc_Desk_needBestTrain l hfl F o_t0 d2 _) gk_683 gk_684 gk_685 o_t0 (by decide) rfl rfl rfl ⟨(Nat.le_trans (m := 7) (Nat.le_of_ble_eq_true rfl) hR.1), (Nat.le_trans (m := 140) (Nat.le_of_ble_eq_true rfl) hR.2)⟩ ⟨Nat.zero_le _, Nat.zero_le _⟩ rfl rfl (Nat.le_of_ble_eq_true rfl) gd_Desk_error_1 (fun H locs hW => ?_)
  refine lv_iload_n hx hb gd_Desk_error_4 rfl (lv_at hl 1 rfl) ?_
  refine lv_if_lt (tgt := 13) hx hb gd_Desk_error_5 (by decide) (fun c5 => ?_) (fun c5 => ?_)
  · have h := gf_t c5 h
    exact gx_Desk_error_b13 F C hr hk hR hfl hne hX  u1   hW (lv_sub hl [] rfl) h
  · have h := gf_f c5 h
    refine lv_iload_n hx hb gd_Desk_error_8 rfl (lv_at hl 1 rfl) ?_
    refine lv_iconst (v := 1) hx hb gd_Desk_error_9 (by decide) ?_
    refine lv_icmp_le (tgt := 21) hx hb gd_Desk_error_10 (by decide) (fun c6 => ?_) (fun c6 => ?_)
    · have h := gf_t c6 h
      refine lv_aload_n hx hb gd_Desk_error_21 rfl (lv_at hl 0 rfl) ?_
      obtain ⟨q7, e8, h⟩ := gf_nn_ok h
      refine gw_getr (k := 0) (ty := 1) (ref := R_Desk) C hW o_t0 (by decide) rfl gi_Desk rfl (by decide) rfl rfl gk_371 gd_Desk_error_22 e8 ?_
      have o_q7 := hW.ref (d := 1) o_t0 e8 rfl
      refine lv_iload_n hx hb gd_Desk_error_25 rfl (lv_at hl 1 rfl) ?_
      obtain ⟨a11, u9, d10, h⟩ := gf_cl_ok h
      refine gw_callVl (K := R_Trains) (As := [.int x1]) (rest := []) C hW (fun _ h => Or.inr h) hl.1 gm_Trains_bestError (gc_Trains_bestError l F o_q7 d10 _) gk_691 gk_692 gk_693 o_q7 (by decide) rfl rfl rfl ⟨(Nat.le_trans (m := 7) (Nat.le_of_ble_eq_true rfl) hR.1), (Nat.le_trans (m := 140) (Nat.le_of_ble_eq_true rfl) hR.2)⟩ ⟨Nat.zero_le _, Nat.zero_le _⟩ rfl rfl (Nat.le_of_ble_eq_true rfl) gd_Desk_error_26 (fun H locs hW => ?_)
      obtain rfl := Option.some.inj h
      exact gw_lret C hW hr hk gd_Desk_error_29
    · have h := gf_f c6 h
      exact gx_Desk_error_b13 F C hr hk hR hfl hne hX  u1   hW (lv_sub hl [] rfl) h

set_option maxRecDepth 20000 in
theorem gc_Desk_error (l : Launch) (hfl : l.flags = pinnedFlags ++ [noTraceFlag]) {D : va_G} {cA : Nat → ClassId} {hs : Nat → Nat} {z : gw_Sh} (F : Nat) {u w : gw_St} {v : Int64} {t0 : Nat} {x1 : Int32} (o_t0 : gw_ok z t0 0) (h : gf_Desk_error F z u t0 x1 = some (.inl v, w)) (sz : Nat) : gw_Ml l gy_Desk_error gb_Desk_error 2 (some .long) (gw_rm 7 140) [.ref (hs t0), .int x1] D cA hs z u sz (v, w) := by
  refine xt_enter0 (by decide) (Nat.le_of_ble_eq_true rfl) ?_
  intro p e s m below meth c ls hsz C hW hr hk hne hl
  subst hsz
  exact gx_Desk_error_b0 (e := e) (hs := hs) (z := z) (R := gw_rm 7 140) (r0 := (.inl v, w)) F C hr hk ⟨Nat.le_refl _, Nat.le_refl _⟩ hfl hne trivial u t0 x1 o_t0 hW (lv_sub hl [0, 1] rfl) h
set_option maxRecDepth 20000 in
theorem gt_Desk_error (l : Launch) (hfl : l.flags = pinnedFlags ++ [noTraceFlag]) {D : va_G} {cA : Nat → ClassId} {hs : Nat → Nat} {z : gw_Sh} (F : Nat) {u w : gw_St} {k : Nat} {t0 : Nat} {x1 : Int32} (o_t0 : gw_ok z t0 0) (h : gf_Desk_error F z u t0 x1 = some (.inr k, w)) (sz : Nat) : gw_Mt l gy_Desk_error gb_Desk_error 2 (some .long) (xt_rm 7 140) [.ref (hs t0), .int x1] D cA hs z u sz k w := by
  refine xt_enter hfl (by decide) (Nat.le_of_ble_eq_true rfl) ?_
  intro p e s m below meth c ls hsz C hW hr hk hne hZ htr hl
  exact gx_Desk_error_b0 (e := e) (hs := hs) (z := z) (R := xt_rm 7 140) (r0 := (.inr k, w)) F C hr hk ⟨Nat.le_refl _, Nat.le_refl _⟩ hfl hne ⟨htr, hZ, Nat.le_refl _, Nat.le_refl _⟩ u t0 x1 o_t0 hW (lv_sub hl [0, 1] rfl) h
-- GearDesk.quotient(III)I
def gy_Desk_quotient : MethodName := ⟨R_Desk, "quotient", "(III)I"⟩
abbrev gb_Desk_quotient : ByteArray := prog_1_method_6_code
theorem gk_695 : Cond.code gy_Desk_quotient gb_Desk_quotient 8 (some .int) ∈ gt_T := gt_m4 (List.mem_of_getElem? (i := 180) rfl) rfl
theorem gm_Desk_quotient : gw_Mth gy_Desk_quotient gb_Desk_quotient 8 (some .int) 3 := ⟨gk_695, gk_361, ⟨by decide +kernel, by decide +kernel⟩, by decide +kernel⟩
theorem gd_Desk_quotient_0 : decode gb_Desk_quotient 0 = .ok (.iload_n 1, 1) := by decide +kernel
theorem gd_Desk_quotient_1 : decode gb_Desk_quotient 1 = .ok (.iconst 1, 1) := by decide +kernel
theorem gd_Desk_quotient_2 : decode gb_Desk_quotient 2 = .ok (.if_icmp .lt 8, 3) := by decide +kernel
theorem gd_Desk_quotient_5 : decode gb_Desk_quotient 5 = .ok (.iload_n 2, 1) := by decide +kernel
theorem gd_Desk_quotient_6 : decode gb_Desk_quotient 6 = .ok (.iconst 1, 1) := by decide +kernel
theorem gd_Desk_quotient_7 : decode gb_Desk_quotient 7 = .ok (.if_icmp .ge 11, 3) := by decide +kernel
theorem gd_Desk_quotient_10 : decode gb_Desk_quotient 10 = .ok (.new 88, 3) := by decide +kernel
theorem gd_Desk_quotient_13 : decode gb_Desk_quotient 13 = .ok (.dup, 1) := by decide +kernel
theorem gd_Desk_quotient_14 : decode gb_Desk_quotient 14 = .ok (.invokespecial 90, 3) := by decide +kernel
theorem gd_Desk_quotient_17 : decode gb_Desk_quotient 17 = .ok (.athrow, 1) := by decide +kernel
theorem gd_Desk_quotient_18 : decode gb_Desk_quotient 18 = .ok (.iload_n 3, 1) := by decide +kernel
theorem gd_Desk_quotient_19 : decode gb_Desk_quotient 19 = .ok (.ifCond .ge 11, 3) := by decide +kernel
theorem gd_Desk_quotient_22 : decode gb_Desk_quotient 22 = .ok (.new 117, 3) := by decide +kernel
theorem gd_Desk_quotient_25 : decode gb_Desk_quotient 25 = .ok (.dup, 1) := by decide +kernel
theorem gd_Desk_quotient_26 : decode gb_Desk_quotient 26 = .ok (.invokespecial 119, 3) := by decide +kernel
theorem gd_Desk_quotient_29 : decode gb_Desk_quotient 29 = .ok (.athrow, 1) := by decide +kernel
theorem gd_Desk_quotient_30 : decode gb_Desk_quotient 30 = .ok (.iload_n 1, 1) := by decide +kernel
theorem gd_Desk_quotient_31 : decode gb_Desk_quotient 31 = .ok (.istore 4, 2) := by decide +kernel
theorem gd_Desk_quotient_33 : decode gb_Desk_quotient 33 = .ok (.iload_n 2, 1) := by decide +kernel
theorem gd_Desk_quotient_34 : decode gb_Desk_quotient 34 = .ok (.istore 5, 2) := by decide +kernel
theorem gd_Desk_quotient_36 : decode gb_Desk_quotient 36 = .ok (.iconst 0, 1) := by decide +kernel
theorem gd_Desk_quotient_37 : decode gb_Desk_quotient 37 = .ok (.istore 6, 2) := by decide +kernel
theorem gd_Desk_quotient_39 : decode gb_Desk_quotient 39 = .ok (.iload 6, 2) := by decide +kernel
theorem gd_Desk_quotient_41 : decode gb_Desk_quotient 41 = .ok (.iload_n 3, 1) := by decide +kernel
theorem gd_Desk_quotient_42 : decode gb_Desk_quotient 42 = .ok (.if_icmp .ge 29, 3) := by decide +kernel
theorem gd_Desk_quotient_45 : decode gb_Desk_quotient 45 = .ok (.iload 5, 2) := by decide +kernel
theorem gd_Desk_quotient_47 : decode gb_Desk_quotient 47 = .ok (.ifCond .eq 24, 3) := by decide +kernel
theorem gd_Desk_quotient_50 : decode gb_Desk_quotient 50 = .ok (.iload 4, 2) := by decide +kernel
theorem gd_Desk_quotient_52 : decode gb_Desk_quotient 52 = .ok (.iload 5, 2) := by decide +kernel
theorem gd_Desk_quotient_54 : decode gb_Desk_quotient 54 = .ok (.irem, 1) := by decide +kernel
theorem gd_Desk_quotient_55 : decode gb_Desk_quotient 55 = .ok (.istore 7, 2) := by decide +kernel
theorem gd_Desk_quotient_57 : decode gb_Desk_quotient 57 = .ok (.iload 5, 2) := by decide +kernel
theorem gd_Desk_quotient_59 : decode gb_Desk_quotient 59 = .ok (.istore 4, 2) := by decide +kernel
theorem gd_Desk_quotient_61 : decode gb_Desk_quotient 61 = .ok (.iload 7, 2) := by decide +kernel
theorem gd_Desk_quotient_63 : decode gb_Desk_quotient 63 = .ok (.istore 5, 2) := by decide +kernel
theorem gd_Desk_quotient_65 : decode gb_Desk_quotient 65 = .ok (.iinc 6 1, 3) := by decide +kernel
theorem gd_Desk_quotient_68 : decode gb_Desk_quotient 68 = .ok (.goto (-29), 3) := by decide +kernel
theorem gd_Desk_quotient_71 : decode gb_Desk_quotient 71 = .ok (.iload 5, 2) := by decide +kernel
theorem gd_Desk_quotient_73 : decode gb_Desk_quotient 73 = .ok (.ifCond .ne 11, 3) := by decide +kernel
theorem gd_Desk_quotient_76 : decode gb_Desk_quotient 76 = .ok (.new 117, 3) := by decide +kernel
theorem gd_Desk_quotient_79 : decode gb_Desk_quotient 79 = .ok (.dup, 1) := by decide +kernel
theorem gd_Desk_quotient_80 : decode gb_Desk_quotient 80 = .ok (.invokespecial 119, 3) := by decide +kernel
theorem gd_Desk_quotient_83 : decode gb_Desk_quotient 83 = .ok (.athrow, 1) := by decide +kernel
theorem gd_Desk_quotient_84 : decode gb_Desk_quotient 84 = .ok (.iload 4, 2) := by decide +kernel
theorem gd_Desk_quotient_86 : decode gb_Desk_quotient 86 = .ok (.iload 5, 2) := by decide +kernel
theorem gd_Desk_quotient_88 : decode gb_Desk_quotient 88 = .ok (.idiv, 1) := by decide +kernel
theorem gd_Desk_quotient_89 : decode gb_Desk_quotient 89 = .ok (.ireturn, 1) := by decide +kernel
def gf_Desk_quotient_b10 (F : Nat) (z : gw_Sh)  (u : gw_St)  : Option ((Int32 ⊕ Nat) × gw_St) :=
  some (.inr 1, u)
def gf_Desk_quotient_b71 (F : Nat) (z : gw_Sh)  (u : gw_St) (x4 : Int32) (x5 : Int32) : Option ((Int32 ⊕ Nat) × gw_St) :=
  if x5 = 0 then (some (.inr 3, u)) else (if x5 = 0 then none else some (.inl (x4 / x5), u))
def gf_Desk_quotient_S39 (F : Nat) (z : gw_Sh)  (rc_39 : gw_St → Int32 → Int32 → Int32 → Int32 → Option ((Int32 ⊕ Nat) × gw_St)) (u : gw_St) (x3 : Int32) (x4 : Int32) (x5 : Int32) (x6 : Int32) : Option ((Int32 ⊕ Nat) × gw_St) :=
  if x3 ≤ x6 then (gf_Desk_quotient_b71 F z  u x4 x5) else (if x5 = 0 then (gf_Desk_quotient_b71 F z  u x4 x5) else (if x5 = 0 then none else gf_nm (x4 - x4 / x5 * x5) fun a6 => gf_nm (x6 + 1) fun a8 => rc_39 u x3 x5 a6 a8))
def gf_Desk_quotient_L39 (F : Nat) (z : gw_Sh)  : Nat → gw_St → Int32 → Int32 → Int32 → Int32 → Option ((Int32 ⊕ Nat) × gw_St)
  | 0 => fun _ _ _ _ _ => none
  | n + 1 => fun u x3 x4 x5 x6 => gf_Desk_quotient_S39 F z  (gf_Desk_quotient_L39 F z  n) u x3 x4 x5 x6
def gf_Desk_quotient_b0 (F : Nat) (z : gw_Sh)  (u : gw_St) (x1 : Int32) (x2 : Int32) (x3 : Int32) : Option ((Int32 ⊕ Nat) × gw_St) :=
  if x1 < (1 : Int32) then (gf_Desk_quotient_b10 F z  u ) else (if (1 : Int32) ≤ x2 then (if 0 ≤ x3 then (gf_Desk_quotient_L39 F z  F u x3 x1 x2 0) else (some (.inr 3, u))) else (gf_Desk_quotient_b10 F z  u ))
def gf_Desk_quotient (F : Nat) (z : gw_Sh) (u : gw_St) (t0 : Nat) (x1 : Int32) (x2 : Int32) (x3 : Int32) : Option ((Int32 ⊕ Nat) × gw_St) := gf_Desk_quotient_b0 F z  u x1 x2 x3
set_option maxHeartbeats 4000000 in
set_option maxRecDepth 20000 in
theorem gx_Desk_quotient_b10 {p : Program} {l : Launch} {e : Env} {s : State} {m : MethodId} {args : Array Value} {below : List Frame} {meth : Method} {c : Code} {D : va_G} {cA : Nat → ClassId} {hs : Nat → Nat} {z : gw_Sh} (F : Nat) {r0 : ((Int32 ⊕ Nat) × gw_St)} (C : gw_Cx p s m args c gb_Desk_quotient 8 R_Desk D cA) (hr : meth.sig.returnType = (some .int)) (hk : meth.locks = false) {R : Room} (hR : 6 ≤ R.frames ∧ 120 ≤ R.locals) (hfl : l.flags = pinnedFlags ++ [noTraceFlag]) (hne : c.exceptionTable.isEmpty = true) (hX : xt_Ok e s R hs z r0) (u : gw_St)   {H : Heap} {locs : List Loc} {ls : Array Slot} (hW : gw_Wx D cA hs z s u H locs) (hl : lv_has ls 8 []) (h : gf_Desk_quotient_b10 F z   u  = some r0) : gw_Ti p l e R s m args below meth c D cA hs z r0 H locs ls 10 [] := by
  obtain ⟨hx, hb, hml, hown, hts, hK⟩ := id C
  unfold gf_Desk_quotient_b10 at h
  obtain rfl := Option.some.inj h
  have hX9 : e.platform.stackTraces = false ∧ xt_Zs (gw_A hs z s.heap.size) s s.heap ∧ 1 ≤ R.cells ∧ 6 ≤ R.slots := hX
  exact xt_throw (k := 1) C hW (fun _ h => Or.inr h) hX9.2.1 hX9.1 hl.1 hk (xt_out hne _) (by decide +kernel) xa_1 gk_659 gk_660 gk_661 gd_Desk_quotient_10 gd_Desk_quotient_13 gd_Desk_quotient_14 gd_Desk_quotient_17 (Nat.le_trans (m := 6) (Nat.le_of_ble_eq_true rfl) hR.1) (Nat.le_trans (m := 120) (Nat.le_of_ble_eq_true rfl) hR.2) hX9.2.2.1 hX9.2.2.2

set_option maxHeartbeats 4000000 in
set_option maxRecDepth 20000 in
theorem gx_Desk_quotient_b71 {p : Program} {l : Launch} {e : Env} {s : State} {m : MethodId} {args : Array Value} {below : List Frame} {meth : Method} {c : Code} {D : va_G} {cA : Nat → ClassId} {hs : Nat → Nat} {z : gw_Sh} (F : Nat) {r0 : ((Int32 ⊕ Nat) × gw_St)} (C : gw_Cx p s m args c gb_Desk_quotient 8 R_Desk D cA) (hr : meth.sig.returnType = (some .int)) (hk : meth.locks = false) {R : Room} (hR : 6 ≤ R.frames ∧ 120 ≤ R.locals) (hfl : l.flags = pinnedFlags ++ [noTraceFlag]) (hne : c.exceptionTable.isEmpty = true) (hX : xt_Ok e s R hs z r0) (u : gw_St) (x4 : Int32) (x5 : Int32)  {H : Heap} {locs : List Loc} {ls : Array Slot} (hW : gw_Wx D cA hs z s u H locs) (hl : lv_has ls 8 [(4, .int x4), (5, .int x5)]) (h : gf_Desk_quotient_b71 F z   u x4 x5 = some r0) : gw_Ti p l e R s m args below meth c D cA hs z r0 H locs ls 71 [] := by
  obtain ⟨hx, hb, hml, hown, hts, hK⟩ := id C
  unfold gf_Desk_quotient_b71 at h
  refine lv_iload hx hb gd_Desk_quotient_71 (lv_at hl 1 rfl) ?_
  refine lv_if_ne (tgt := 84) hx hb gd_Desk_quotient_73 (by decide) (fun c1 => ?_) (fun c1 => ?_)
  · have h := gf_f c1 h
    refine lv_iload hx hb gd_Desk_quotient_84 (lv_at hl 0 rfl) ?_
    refine lv_iload hx hb gd_Desk_quotient_86 (lv_at hl 1 rfl) ?_
    obtain ⟨g2, h⟩ := gf_if_ok h
    refine lv_idiv hx hb gd_Desk_quotient_88 g2 ?_
    obtain rfl := Option.some.inj h
    exact gw_iret C hW hr hk gd_Desk_quotient_89
  · have h := gf_t c1 h
    obtain rfl := Option.some.inj h
    have hX9 : e.platform.stackTraces = false ∧ xt_Zs (gw_A hs z s.heap.size) s s.heap ∧ 1 ≤ R.cells ∧ 6 ≤ R.slots := hX
    exact xt_throw (k := 3) C hW (fun _ h => Or.inr h) hX9.2.1 hX9.1 hl.1 hk (xt_out hne _) (by decide +kernel) xa_3 gk_680 gk_681 gk_682 gd_Desk_quotient_76 gd_Desk_quotient_79 gd_Desk_quotient_80 gd_Desk_quotient_83 (Nat.le_trans (m := 6) (Nat.le_of_ble_eq_true rfl) hR.1) (Nat.le_trans (m := 120) (Nat.le_of_ble_eq_true rfl) hR.2) hX9.2.2.1 hX9.2.2.2

set_option maxHeartbeats 4000000 in
set_option maxRecDepth 20000 in
theorem gx_Desk_quotient_S39 {p : Program} {l : Launch} {e : Env} {s : State} {m : MethodId} {args : Array Value} {below : List Frame} {meth : Method} {c : Code} {D : va_G} {cA : Nat → ClassId} {hs : Nat → Nat} {z : gw_Sh} (F : Nat) {r0 : ((Int32 ⊕ Nat) × gw_St)} (C : gw_Cx p s m args c gb_Desk_quotient 8 R_Desk D cA) (hr : meth.sig.returnType = (some .int)) (hk : meth.locks = false) {R : Room} (hR : 6 ≤ R.frames ∧ 120 ≤ R.locals) (hfl : l.flags = pinnedFlags ++ [noTraceFlag]) (hne : c.exceptionTable.isEmpty = true) (hX : xt_Ok e s R hs z r0) {rc_39 : gw_St → Int32 → Int32 → Int32 → Int32 → Option ((Int32 ⊕ Nat) × gw_St)} (k_39 : ∀ (u : gw_St) (x3 : Int32) (x4 : Int32) (x5 : Int32) (x6 : Int32) (H : Heap) (locs : List Loc) (ls : Array Slot), gw_Wx D cA hs z s u H locs → lv_has ls 8 [(3, .int x3), (4, .int x4), (5, .int x5), (6, .int x6)] → rc_39 u x3 x4 x5 x6 = some r0 → gw_Ti p l e R s m args below meth c D cA hs z r0 H locs ls 39 []) (u : gw_St) (x3 : Int32) (x4 : Int32) (x5 : Int32) (x6 : Int32)  {H : Heap} {locs : List Loc} {ls : Array Slot} (hW : gw_Wx D cA hs z s u H locs) (hl : lv_has ls 8 [(3, .int x3), (4, .int x4), (5, .int x5), (6, .int x6)]) (h : gf_Desk_quotient_S39 F z  rc_39 u x3 x4 x5 x6 = some r0) : gw_Ti p l e R s m args below meth c D cA hs z r0 H locs ls 39 [] := by
  obtain ⟨hx, hb, hml, hown, hts, hK⟩ := id C
  unfold gf_Desk_quotient_S39 at h
  refine lv_iload hx hb gd_Desk_quotient_39 (lv_at hl 3 rfl) ?_
  refine lv_iload_n hx hb gd_Desk_quotient_41 rfl (lv_at hl 0 rfl) ?_
  refine lv_icmp_ge (tgt := 71) hx hb gd_Desk_quotient_42 (by decide) (fun c3 => ?_) (fun c3 => ?_)
  · have h := gf_t c3 h
    exact gx_Desk_quotient_b71 F C hr hk hR hfl hne hX  u x4 x5  hW (lv_sub hl [1, 2] rfl) h
  · have h := gf_f c3 h
    refine lv_iload hx hb gd_Desk_quotient_45 (lv_at hl 2 rfl) ?_
    refine lv_if_eq (tgt := 71) hx hb gd_Desk_quotient_47 (by decide) (fun c4 => ?_) (fun c4 => ?_)
    · have h := gf_t c4 h
      exact gx_Desk_quotient_b71 F C hr hk hR hfl hne hX  u x4 x5  hW (lv_sub hl [1, 2] rfl) h
    · have h := gf_f c4 h
      refine lv_iload hx hb gd_Desk_quotient_50 (lv_at hl 1 rfl) ?_
      refine lv_iload hx hb gd_Desk_quotient_52 (lv_at hl 2 rfl) ?_
      obtain ⟨g5, h⟩ := gf_if_ok h
      refine lv_irem hx hb gd_Desk_quotient_54 g5 ?_
      refine lv_topi (fun a6 e7 => ?_)
      have h := gf_nm_ok e7 h
      refine lv_istore (lv' := [(7, .int a6), (3, .int x3), (4, .int x4), (5, .int x5), (6, .int x6)]) hx hb gd_Desk_quotient_55 hl (by decide) rfl (fun ls hl => ?_)
      refine lv_iload hx hb gd_Desk_quotient_57 (lv_at hl 3 rfl) ?_
      refine lv_istore (lv' := [(4, .int x5), (7, .int a6), (3, .int x3), (5, .int x5), (6, .int x6)]) hx hb gd_Desk_quotient_59 hl (by decide) rfl (fun ls hl => ?_)
      refine lv_iload hx hb gd_Desk_quotient_61 (lv_at hl 1 rfl) ?_
      refine lv_istore (lv' := [(5, .int a6), (4, .int x5), (7, .int a6), (3, .int x3), (6, .int x6)]) hx hb gd_Desk_quotient_63 hl (by decide) rfl (fun ls hl => ?_)
      obtain ⟨a8, e9⟩ : ∃ y : Int32, y = x6 + 1 := ⟨_, rfl⟩
      have h := gf_nm_ok e9 h
      refine lv_iinc (v := a8) (lv' := [(6, .int a8), (5, .int a6), (4, .int x5), (7, .int a6), (3, .int x3)]) hx hb gd_Desk_quotient_65 hl (k := 4) rfl (by rw [e9]; rfl) (by decide) rfl (fun ls hl => ?_)
      refine lv_goto (tgt := 39) hx hb gd_Desk_quotient_68 (by decide) ?_
      exact k_39 u x3 x5 a6 a8 _ _ _  hW (lv_sub hl [4, 2, 1, 0] rfl) h
set_option maxHeartbeats 4000000 in
set_option maxRecDepth 20000 in
theorem gx_Desk_quotient_L39 {p : Program} {l : Launch} {e : Env} {s : State} {m : MethodId} {args : Array Value} {below : List Frame} {meth : Method} {c : Code} {D : va_G} {cA : Nat → ClassId} {hs : Nat → Nat} {z : gw_Sh} (F : Nat) {r0 : ((Int32 ⊕ Nat) × gw_St)} (C : gw_Cx p s m args c gb_Desk_quotient 8 R_Desk D cA) (hr : meth.sig.returnType = (some .int)) (hk : meth.locks = false) {R : Room} (hR : 6 ≤ R.frames ∧ 120 ≤ R.locals) (hfl : l.flags = pinnedFlags ++ [noTraceFlag]) (hne : c.exceptionTable.isEmpty = true) (hX : xt_Ok e s R hs z r0) : ∀ (n : Nat), ∀ (u : gw_St) (x3 : Int32) (x4 : Int32) (x5 : Int32) (x6 : Int32) (H : Heap) (locs : List Loc) (ls : Array Slot), gw_Wx D cA hs z s u H locs → lv_has ls 8 [(3, .int x3), (4, .int x4), (5, .int x5), (6, .int x6)] → gf_Desk_quotient_L39 F z  n u x3 x4 x5 x6 = some r0 → gw_Ti p l e R s m args below meth c D cA hs z r0 H locs ls 39 [] := by
  intro n
  induction n with
  | zero =>
    intro u x3 x4 x5 x6 H locs ls  hW hl h
    cases h
  | succ n ih =>
    intro u x3 x4 x5 x6 H locs ls  hW hl h
    exact gx_Desk_quotient_S39 F C hr hk hR hfl hne hX  ih u x3 x4 x5 x6  hW hl h

set_option maxHeartbeats 4000000 in
set_option maxRecDepth 20000 in
theorem gx_Desk_quotient_b0 {p : Program} {l : Launch} {e : Env} {s : State} {m : MethodId} {args : Array Value} {below : List Frame} {meth : Method} {c : Code} {D : va_G} {cA : Nat → ClassId} {hs : Nat → Nat} {z : gw_Sh} (F : Nat) {r0 : ((Int32 ⊕ Nat) × gw_St)} (C : gw_Cx p s m args c gb_Desk_quotient 8 R_Desk D cA) (hr : meth.sig.returnType = (some .int)) (hk : meth.locks = false) {R : Room} (hR : 6 ≤ R.frames ∧ 120 ≤ R.locals) (hfl : l.flags = pinnedFlags ++ [noTraceFlag]) (hne : c.exceptionTable.isEmpty = true) (hX : xt_Ok e s R hs z r0) (u : gw_St) (x1 : Int32) (x2 : Int32) (x3 : Int32)  {H : Heap} {locs : List Loc} {ls : Array Slot} (hW : gw_Wx D cA hs z s u H locs) (hl : lv_has ls 8 [(1, .int x1), (2, .int x2), (3, .int x3)]) (h : gf_Desk_quotient_b0 F z   u x1 x2 x3 = some r0) : gw_Ti p l e R s m args below meth c D cA hs z r0 H locs ls 0 [] := by
  obtain ⟨hx, hb, hml, hown, hts, hK⟩ := id C
  unfold gf_Desk_quotient_b0 at h
  refine lv_iload_n hx hb gd_Desk_quotient_0 rfl (lv_at hl 0 rfl) ?_
  refine lv_iconst (v := 1) hx hb gd_Desk_quotient_1 (by decide) ?_
  refine lv_icmp_lt (tgt := 10) hx hb gd_Desk_quotient_2 (by decide) (fun c10 => ?_) (fun c10 => ?_)
  · have h := gf_t c10 h
    exact gx_Desk_quotient_b10 F C hr hk hR hfl hne hX  u   hW (lv_sub hl [] rfl) h
  · have h := gf_f c10 h
    refine lv_iload_n hx hb gd_Desk_quotient_5 rfl (lv_at hl 1 rfl) ?_
    refine lv_iconst (v := 1) hx hb gd_Desk_quotient_6 (by decide) ?_
    refine lv_icmp_ge (tgt := 18) hx hb gd_Desk_quotient_7 (by decide) (fun c11 => ?_) (fun c11 => ?_)
    · have h := gf_t c11 h
      refine lv_iload_n hx hb gd_Desk_quotient_18 rfl (lv_at hl 2 rfl) ?_
      refine lv_if_ge (tgt := 30) hx hb gd_Desk_quotient_19 (by decide) (fun c12 => ?_) (fun c12 => ?_)
      · have h := gf_t c12 h
        refine lv_iload_n hx hb gd_Desk_quotient_30 rfl (lv_at hl 0 rfl) ?_
        refine lv_istore (lv' := [(4, .int x1), (1, .int x1), (2, .int x2), (3, .int x3)]) hx hb gd_Desk_quotient_31 hl (by decide) rfl (fun ls hl => ?_)
        refine lv_iload_n hx hb gd_Desk_quotient_33 rfl (lv_at hl 2 rfl) ?_
        refine lv_istore (lv' := [(5, .int x2), (4, .int x1), (1, .int x1), (2, .int x2), (3, .int x3)]) hx hb gd_Desk_quotient_34 hl (by decide) rfl (fun ls hl => ?_)
        refine lv_iconst (v := 0) hx hb gd_Desk_quotient_36 (by decide) ?_
        refine lv_istore (lv' := [(6, .int 0), (5, .int x2), (4, .int x1), (1, .int x1), (2, .int x2), (3, .int x3)]) hx hb gd_Desk_quotient_37 hl (by decide) rfl (fun ls hl => ?_)
        exact gx_Desk_quotient_L39 F C hr hk hR hfl hne hX  F u x3 x1 x2 0 _ _ _  hW (lv_sub hl [5, 2, 1, 0] rfl) h
      · have h := gf_f c12 h
        obtain rfl := Option.some.inj h
        have hX9 : e.platform.stackTraces = false ∧ xt_Zs (gw_A hs z s.heap.size) s s.heap ∧ 1 ≤ R.cells ∧ 6 ≤ R.slots := hX
        exact xt_throw (k := 3) C hW (fun _ h => Or.inr h) hX9.2.1 hX9.1 hl.1 hk (xt_out hne _) (by decide +kernel) xa_3 gk_680 gk_681 gk_682 gd_Desk_quotient_22 gd_Desk_quotient_25 gd_Desk_quotient_26 gd_Desk_quotient_29 (Nat.le_trans (m := 6) (Nat.le_of_ble_eq_true rfl) hR.1) (Nat.le_trans (m := 120) (Nat.le_of_ble_eq_true rfl) hR.2) hX9.2.2.1 hX9.2.2.2
    · have h := gf_f c11 h
      exact gx_Desk_quotient_b10 F C hr hk hR hfl hne hX  u   hW (lv_sub hl [] rfl) h

set_option maxRecDepth 20000 in
theorem gc_Desk_quotient (l : Launch) (hfl : l.flags = pinnedFlags ++ [noTraceFlag]) {D : va_G} {cA : Nat → ClassId} {hs : Nat → Nat} {z : gw_Sh} (F : Nat) {u w : gw_St} {v : Int32} {t0 : Nat} {x1 : Int32} {x2 : Int32} {x3 : Int32} (o_t0 : gw_ok z t0 0) (h : gf_Desk_quotient F z u t0 x1 x2 x3 = some (.inl v, w)) (sz : Nat) : gw_Mi l gy_Desk_quotient gb_Desk_quotient 8 (some .int) (gw_rm 6 120) [.ref (hs t0), .int x1, .int x2, .int x3] D cA hs z u sz (v, w) := by
  refine xt_enter0 (by decide) (Nat.le_of_ble_eq_true rfl) ?_
  intro p e s m below meth c ls hsz C hW hr hk hne hl
  subst hsz
  exact gx_Desk_quotient_b0 (e := e) (hs := hs) (z := z) (R := gw_rm 6 120) (r0 := (.inl v, w)) F C hr hk ⟨Nat.le_refl _, Nat.le_refl _⟩ hfl hne trivial u x1 x2 x3  hW (lv_sub hl [1, 2, 3] rfl) h
set_option maxRecDepth 20000 in
theorem gt_Desk_quotient (l : Launch) (hfl : l.flags = pinnedFlags ++ [noTraceFlag]) {D : va_G} {cA : Nat → ClassId} {hs : Nat → Nat} {z : gw_Sh} (F : Nat) {u w : gw_St} {k : Nat} {t0 : Nat} {x1 : Int32} {x2 : Int32} {x3 : Int32} (o_t0 : gw_ok z t0 0) (h : gf_Desk_quotient F z u t0 x1 x2 x3 = some (.inr k, w)) (sz : Nat) : gw_Mt l gy_Desk_quotient gb_Desk_quotient 8 (some .int) (xt_rm 6 120) [.ref (hs t0), .int x1, .int x2, .int x3] D cA hs z u sz k w := by
  refine xt_enter hfl (by decide) (Nat.le_of_ble_eq_true rfl) ?_
  intro p e s m below meth c ls hsz C hW hr hk hne hZ htr hl
  exact gx_Desk_quotient_b0 (e := e) (hs := hs) (z := z) (R := xt_rm 6 120) (r0 := (.inr k, w)) F C hr hk ⟨Nat.le_refl _, Nat.le_refl _⟩ hfl hne ⟨htr, hZ, Nat.le_refl _, Nat.le_refl _⟩ u x1 x2 x3  hW (lv_sub hl [1, 2, 3] rfl) h
-- GearDesk.gear(I)I
theorem gk_696 : Cond.methodLink R_Desk 131 gy_Works_addGear ∈ gt_T := gt_m4 (List.mem_of_getElem? (i := 188) rfl) rfl
theorem gk_697 : Cond.instanceMethod gy_Works_addGear ∈ gt_T := gt_m4 (List.mem_of_getElem? (i := 189) rfl) rfl
theorem gk_698 : Cond.selects R_Works gy_Works_addGear gy_Works_addGear ∈ gt_T := gt_m4 (List.mem_of_getElem? (i := 190) rfl) rfl
def gy_Desk_gear : MethodName := ⟨R_Desk, "gear", "(I)I"⟩
abbrev gb_Desk_gear : ByteArray := prog_1_method_7_code
theorem gk_699 : Cond.code gy_Desk_gear gb_Desk_gear 2 (some .int) ∈ gt_T := gt_m4 (List.mem_of_getElem? (i := 187) rfl) rfl
theorem gm_Desk_gear : gw_Mth gy_Desk_gear gb_Desk_gear 2 (some .int) 1 := ⟨gk_699, gk_361, ⟨by decide +kernel, by decide +kernel⟩, by decide +kernel⟩
theorem gd_Desk_gear_0 : decode gb_Desk_gear 0 = .ok (.iload_n 1, 1) := by decide +kernel
theorem gd_Desk_gear_1 : decode gb_Desk_gear 1 = .ok (.iconst 4, 1) := by decide +kernel
theorem gd_Desk_gear_2 : decode gb_Desk_gear 2 = .ok (.if_icmp .lt 10, 3) := by decide +kernel
theorem gd_Desk_gear_5 : decode gb_Desk_gear 5 = .ok (.iload_n 1, 1) := by decide +kernel
theorem gd_Desk_gear_6 : decode gb_Desk_gear 6 = .ok (.sipush 1000, 3) := by decide +kernel
theorem gd_Desk_gear_9 : decode gb_Desk_gear 9 = .ok (.if_icmp .le 11, 3) := by decide +kernel
theorem gd_Desk_gear_12 : decode gb_Desk_gear 12 = .ok (.new 88, 3) := by decide +kernel
theorem gd_Desk_gear_15 : decode gb_Desk_gear 15 = .ok (.dup, 1) := by decide +kernel
theorem gd_Desk_gear_16 : decode gb_Desk_gear 16 = .ok (.invokespecial 90, 3) := by decide +kernel
theorem gd_Desk_gear_19 : decode gb_Desk_gear 19 = .ok (.athrow, 1) := by decide +kernel
theorem gd_Desk_gear_20 : decode gb_Desk_gear 20 = .ok (.aload_n 0, 1) := by decide +kernel
theorem gd_Desk_gear_21 : decode gb_Desk_gear 21 = .ok (.getfield 19, 3) := by decide +kernel
theorem gd_Desk_gear_24 : decode gb_Desk_gear 24 = .ok (.getfield 128, 3) := by decide +kernel
theorem gd_Desk_gear_27 : decode gb_Desk_gear 27 = .ok (.bipush 60, 2) := by decide +kernel
theorem gd_Desk_gear_29 : decode gb_Desk_gear 29 = .ok (.if_icmp .ne 11, 3) := by decide +kernel
theorem gd_Desk_gear_32 : decode gb_Desk_gear 32 = .ok (.new 100, 3) := by decide +kernel
theorem gd_Desk_gear_35 : decode gb_Desk_gear 35 = .ok (.dup, 1) := by decide +kernel
theorem gd_Desk_gear_36 : decode gb_Desk_gear 36 = .ok (.invokespecial 102, 3) := by decide +kernel
theorem gd_Desk_gear_39 : decode gb_Desk_gear 39 = .ok (.athrow, 1) := by decide +kernel
theorem gd_Desk_gear_40 : decode gb_Desk_gear 40 = .ok (.aload_n 0, 1) := by decide +kernel
theorem gd_Desk_gear_41 : decode gb_Desk_gear 41 = .ok (.getfield 19, 3) := by decide +kernel
theorem gd_Desk_gear_44 : decode gb_Desk_gear 44 = .ok (.iload_n 1, 1) := by decide +kernel
theorem gd_Desk_gear_45 : decode gb_Desk_gear 45 = .ok (.invokevirtual 131, 3) := by decide +kernel
theorem gd_Desk_gear_48 : decode gb_Desk_gear 48 = .ok (.ireturn, 1) := by decide +kernel
def gf_Desk_gear_b12 (F : Nat) (z : gw_Sh)  (u : gw_St)  : Option ((Int32 ⊕ Nat) × gw_St) :=
  some (.inr 1, u)
def gf_Desk_gear_b0 (F : Nat) (z : gw_Sh)  (u : gw_St) (t0 : Nat) (x1 : Int32) : Option ((Int32 ⊕ Nat) × gw_St) :=
  if x1 < (4 : Int32) then (gf_Desk_gear_b12 F z  u ) else (if x1 ≤ (1000 : Int32) then (gf_nn (u.2.2 t0 1) fun q3 => if (u.1 q3 2) = (60 : Int32) then (some (.inr 2, u)) else (gf_nn (u.2.2 t0 1) fun q6 => gf_cl (gf_Works_addGear F z u q6 x1) fun a10 u8 => some (.inl a10, u8))) else (gf_Desk_gear_b12 F z  u ))
def gf_Desk_gear (F : Nat) (z : gw_Sh) (u : gw_St) (t0 : Nat) (x1 : Int32) : Option ((Int32 ⊕ Nat) × gw_St) := gf_Desk_gear_b0 F z  u t0 x1
set_option maxHeartbeats 4000000 in
set_option maxRecDepth 20000 in
theorem gx_Desk_gear_b12 {p : Program} {l : Launch} {e : Env} {s : State} {m : MethodId} {args : Array Value} {below : List Frame} {meth : Method} {c : Code} {D : va_G} {cA : Nat → ClassId} {hs : Nat → Nat} {z : gw_Sh} (F : Nat) {r0 : ((Int32 ⊕ Nat) × gw_St)} (C : gw_Cx p s m args c gb_Desk_gear 2 R_Desk D cA) (hr : meth.sig.returnType = (some .int)) (hk : meth.locks = false) {R : Room} (hR : 6 ≤ R.frames ∧ 120 ≤ R.locals) (hfl : l.flags = pinnedFlags ++ [noTraceFlag]) (hne : c.exceptionTable.isEmpty = true) (hX : xt_Ok e s R hs z r0) (u : gw_St)   {H : Heap} {locs : List Loc} {ls : Array Slot} (hW : gw_Wx D cA hs z s u H locs) (hl : lv_has ls 2 []) (h : gf_Desk_gear_b12 F z   u  = some r0) : gw_Ti p l e R s m args below meth c D cA hs z r0 H locs ls 12 [] := by
  obtain ⟨hx, hb, hml, hown, hts, hK⟩ := id C
  unfold gf_Desk_gear_b12 at h
  obtain rfl := Option.some.inj h
  have hX9 : e.platform.stackTraces = false ∧ xt_Zs (gw_A hs z s.heap.size) s s.heap ∧ 1 ≤ R.cells ∧ 6 ≤ R.slots := hX
  exact xt_throw (k := 1) C hW (fun _ h => Or.inr h) hX9.2.1 hX9.1 hl.1 hk (xt_out hne _) (by decide +kernel) xa_1 gk_659 gk_660 gk_661 gd_Desk_gear_12 gd_Desk_gear_15 gd_Desk_gear_16 gd_Desk_gear_19 (Nat.le_trans (m := 6) (Nat.le_of_ble_eq_true rfl) hR.1) (Nat.le_trans (m := 120) (Nat.le_of_ble_eq_true rfl) hR.2) hX9.2.2.1 hX9.2.2.2

set_option maxHeartbeats 4000000 in
set_option maxRecDepth 20000 in
theorem gx_Desk_gear_b0 {p : Program} {l : Launch} {e : Env} {s : State} {m : MethodId} {args : Array Value} {below : List Frame} {meth : Method} {c : Code} {D : va_G} {cA : Nat → ClassId} {hs : Nat → Nat} {z : gw_Sh} (F : Nat) {r0 : ((Int32 ⊕ Nat) × gw_St)} (C : gw_Cx p s m args c gb_Desk_gear 2 R_Desk D cA) (hr : meth.sig.returnType = (some .int)) (hk : meth.locks = false) {R : Room} (hR : 6 ≤ R.frames ∧ 120 ≤ R.locals) (hfl : l.flags = pinnedFlags ++ [noTraceFlag]) (hne : c.exceptionTable.isEmpty = true) (hX : xt_Ok e s R hs z r0) (u : gw_St) (t0 : Nat) (x1 : Int32) (o_t0 : gw_ok z t0 0) {H : Heap} {locs : List Loc} {ls : Array Slot} (hW : gw_Wx D cA hs z s u H locs) (hl : lv_has ls 2 [(0, .ref (hs t0)), (1, .int x1)]) (h : gf_Desk_gear_b0 F z   u t0 x1 = some r0) : gw_Ti p l e R s m args below meth c D cA hs z r0 H locs ls 0 [] := by
  obtain ⟨hx, hb, hml, hown, hts, hK⟩ := id C
  unfold gf_Desk_gear_b0 at h
  refine lv_iload_n hx hb gd_Desk_gear_0 rfl (lv_at hl 1 rfl) ?_
  refine lv_iconst (v := 4) hx hb gd_Desk_gear_1 (by decide) ?_
  refine lv_icmp_lt (tgt := 12) hx hb gd_Desk_gear_2 (by decide) (fun c1 => ?_) (fun c1 => ?_)
  · have h := gf_t c1 h
    exact gx_Desk_gear_b12 F C hr hk hR hfl hne hX  u   hW (lv_sub hl [] rfl) h
  · have h := gf_f c1 h
    refine lv_iload_n hx hb gd_Desk_gear_5 rfl (lv_at hl 1 rfl) ?_
    refine lv_sipush (v := 1000) hx hb gd_Desk_gear_6 (by decide) ?_
    refine lv_icmp_le (tgt := 20) hx hb gd_Desk_gear_9 (by decide) (fun c2 => ?_) (fun c2 => ?_)
    · have h := gf_t c2 h
      refine lv_aload_n hx hb gd_Desk_gear_20 rfl (lv_at hl 0 rfl) ?_
      obtain ⟨q3, e4, h⟩ := gf_nn_ok h
      refine gw_getr (k := 1) (ty := 2) (ref := R_Desk) C hW o_t0 (by decide) rfl gi_Desk rfl (by decide) rfl rfl gk_352 gd_Desk_gear_21 e4 ?_
      have o_q3 := hW.ref (d := 2) o_t0 e4 rfl
      refine gw_geti (k := 2) (ref := R_Works) C hW o_q3 (by decide) rfl gi_Works rfl (by decide) rfl rfl gk_353 gd_Desk_gear_24 ?_
      refine lv_bipush (v := 60) hx hb gd_Desk_gear_27 (by decide) ?_
      refine lv_icmp_ne (tgt := 40) hx hb gd_Desk_gear_29 (by decide) (fun c5 => ?_) (fun c5 => ?_)
      · have h := gf_f c5 h
        refine lv_aload_n hx hb gd_Desk_gear_40 rfl (lv_at hl 0 rfl) ?_
        obtain ⟨q6, e7, h⟩ := gf_nn_ok h
        refine gw_getr (k := 1) (ty := 2) (ref := R_Desk) C hW o_t0 (by decide) rfl gi_Desk rfl (by decide) rfl rfl gk_352 gd_Desk_gear_41 e7 ?_
        have o_q6 := hW.ref (d := 2) o_t0 e7 rfl
        refine lv_iload_n hx hb gd_Desk_gear_44 rfl (lv_at hl 1 rfl) ?_
        obtain ⟨a10, u8, d9, h⟩ := gf_cl_ok h
        refine gw_callVi (K := R_Works) (As := [.int x1]) (rest := []) C hW (fun _ h => Or.inr h) hl.1 gm_Works_addGear (gc_Works_addGear l F o_q6 d9 _) gk_696 gk_697 gk_698 o_q6 (by decide) rfl rfl rfl ⟨(Nat.le_trans (m := 6) (Nat.le_of_ble_eq_true rfl) hR.1), (Nat.le_trans (m := 120) (Nat.le_of_ble_eq_true rfl) hR.2)⟩ ⟨Nat.zero_le _, Nat.zero_le _⟩ rfl rfl (Nat.le_of_ble_eq_true rfl) gd_Desk_gear_45 (fun H locs hW => ?_)
        obtain rfl := Option.some.inj h
        exact gw_iret C hW hr hk gd_Desk_gear_48
      · have h := gf_t c5 h
        obtain rfl := Option.some.inj h
        have hX9 : e.platform.stackTraces = false ∧ xt_Zs (gw_A hs z s.heap.size) s s.heap ∧ 1 ≤ R.cells ∧ 6 ≤ R.slots := hX
        exact xt_throw (k := 2) C hW (fun _ h => Or.inr h) hX9.2.1 hX9.1 hl.1 hk (xt_out hne _) (by decide +kernel) xa_2 gk_675 gk_676 gk_677 gd_Desk_gear_32 gd_Desk_gear_35 gd_Desk_gear_36 gd_Desk_gear_39 (Nat.le_trans (m := 6) (Nat.le_of_ble_eq_true rfl) hR.1) (Nat.le_trans (m := 120) (Nat.le_of_ble_eq_true rfl) hR.2) hX9.2.2.1 hX9.2.2.2
    · have h := gf_f c2 h
      exact gx_Desk_gear_b12 F C hr hk hR hfl hne hX  u   hW (lv_sub hl [] rfl) h

set_option maxRecDepth 20000 in
theorem gc_Desk_gear (l : Launch) (hfl : l.flags = pinnedFlags ++ [noTraceFlag]) {D : va_G} {cA : Nat → ClassId} {hs : Nat → Nat} {z : gw_Sh} (F : Nat) {u w : gw_St} {v : Int32} {t0 : Nat} {x1 : Int32} (o_t0 : gw_ok z t0 0) (h : gf_Desk_gear F z u t0 x1 = some (.inl v, w)) (sz : Nat) : gw_Mi l gy_Desk_gear gb_Desk_gear 2 (some .int) (gw_rm 6 120) [.ref (hs t0), .int x1] D cA hs z u sz (v, w) := by
  refine xt_enter0 (by decide) (Nat.le_of_ble_eq_true rfl) ?_
  intro p e s m below meth c ls hsz C hW hr hk hne hl
  subst hsz
  exact gx_Desk_gear_b0 (e := e) (hs := hs) (z := z) (R := gw_rm 6 120) (r0 := (.inl v, w)) F C hr hk ⟨Nat.le_refl _, Nat.le_refl _⟩ hfl hne trivial u t0 x1 o_t0 hW (lv_sub hl [0, 1] rfl) h
set_option maxRecDepth 20000 in
theorem gt_Desk_gear (l : Launch) (hfl : l.flags = pinnedFlags ++ [noTraceFlag]) {D : va_G} {cA : Nat → ClassId} {hs : Nat → Nat} {z : gw_Sh} (F : Nat) {u w : gw_St} {k : Nat} {t0 : Nat} {x1 : Int32} (o_t0 : gw_ok z t0 0) (h : gf_Desk_gear F z u t0 x1 = some (.inr k, w)) (sz : Nat) : gw_Mt l gy_Desk_gear gb_Desk_gear 2 (some .int) (xt_rm 6 120) [.ref (hs t0), .int x1] D cA hs z u sz k w := by
  refine xt_enter hfl (by decide) (Nat.le_of_ble_eq_true rfl) ?_
  intro p e s m below meth c ls hsz C hW hr hk hne hZ htr hl
  exact gx_Desk_gear_b0 (e := e) (hs := hs) (z := z) (R := xt_rm 6 120) (r0 := (.inr k, w)) F C hr hk ⟨Nat.le_refl _, Nat.le_refl _⟩ hfl hne ⟨htr, hZ, Nat.le_refl _, Nat.le_refl _⟩ u t0 x1 o_t0 hW (lv_sub hl [0, 1] rfl) h
-- GearDesk.needGear(I)V
def gy_Desk_needGear : MethodName := ⟨R_Desk, "needGear", "(I)V"⟩
abbrev gb_Desk_needGear : ByteArray := prog_1_method_26_code
theorem gk_700 : Cond.code gy_Desk_needGear gb_Desk_needGear 2 none ∈ gt_T := gt_m4 (List.mem_of_getElem? (i := 206) rfl) rfl
theorem gm_Desk_needGear : gw_Mth gy_Desk_needGear gb_Desk_needGear 2 none 1 := ⟨gk_700, gk_361, ⟨by decide +kernel, by decide +kernel⟩, by decide +kernel⟩
theorem gd_Desk_needGear_0 : decode gb_Desk_needGear 0 = .ok (.iload_n 1, 1) := by decide +kernel
theorem gd_Desk_needGear_1 : decode gb_Desk_needGear 1 = .ok (.ifCond .lt 14, 3) := by decide +kernel
theorem gd_Desk_needGear_4 : decode gb_Desk_needGear 4 = .ok (.iload_n 1, 1) := by decide +kernel
theorem gd_Desk_needGear_5 : decode gb_Desk_needGear 5 = .ok (.aload_n 0, 1) := by decide +kernel
theorem gd_Desk_needGear_6 : decode gb_Desk_needGear 6 = .ok (.getfield 19, 3) := by decide +kernel
theorem gd_Desk_needGear_9 : decode gb_Desk_needGear 9 = .ok (.getfield 128, 3) := by decide +kernel
theorem gd_Desk_needGear_12 : decode gb_Desk_needGear 12 = .ok (.if_icmp .lt 11, 3) := by decide +kernel
theorem gd_Desk_needGear_15 : decode gb_Desk_needGear 15 = .ok (.new 117, 3) := by decide +kernel
theorem gd_Desk_needGear_18 : decode gb_Desk_needGear 18 = .ok (.dup, 1) := by decide +kernel
theorem gd_Desk_needGear_19 : decode gb_Desk_needGear 19 = .ok (.invokespecial 119, 3) := by decide +kernel
theorem gd_Desk_needGear_22 : decode gb_Desk_needGear 22 = .ok (.athrow, 1) := by decide +kernel
theorem gd_Desk_needGear_23 : decode gb_Desk_needGear 23 = .ok (.return_, 1) := by decide +kernel
def gf_Desk_needGear_b15 (F : Nat) (z : gw_Sh)  (u : gw_St)  : Option ((Unit ⊕ Nat) × gw_St) :=
  some (.inr 3, u)
def gf_Desk_needGear_b0 (F : Nat) (z : gw_Sh)  (u : gw_St) (t0 : Nat) (x1 : Int32) : Option ((Unit ⊕ Nat) × gw_St) :=
  if x1 < 0 then (gf_Desk_needGear_b15 F z  u ) else (gf_nn (u.2.2 t0 1) fun q2 => if x1 < (u.1 q2 2) then (some (.inl (), u)) else (gf_Desk_needGear_b15 F z  u ))
def gf_Desk_needGear (F : Nat) (z : gw_Sh) (u : gw_St) (t0 : Nat) (x1 : Int32) : Option ((Unit ⊕ Nat) × gw_St) := gf_Desk_needGear_b0 F z  u t0 x1
set_option maxHeartbeats 4000000 in
set_option maxRecDepth 20000 in
theorem gx_Desk_needGear_b15 {p : Program} {l : Launch} {e : Env} {s : State} {m : MethodId} {args : Array Value} {below : List Frame} {meth : Method} {c : Code} {D : va_G} {cA : Nat → ClassId} {hs : Nat → Nat} {z : gw_Sh} (F : Nat) {r0 : ((Unit ⊕ Nat) × gw_St)} (C : gw_Cx p s m args c gb_Desk_needGear 2 R_Desk D cA) (hr : meth.sig.returnType = none) (hk : meth.locks = false) {R : Room} (hR : 6 ≤ R.frames ∧ 120 ≤ R.locals) (hfl : l.flags = pinnedFlags ++ [noTraceFlag]) (hne : c.exceptionTable.isEmpty = true) (hX : xt_Ok e s R hs z r0) (u : gw_St)   {H : Heap} {locs : List Loc} {ls : Array Slot} (hW : gw_Wx D cA hs z s u H locs) (hl : lv_has ls 2 []) (h : gf_Desk_needGear_b15 F z   u  = some r0) : gw_Tv p l e R s m args below meth c D cA hs z r0 H locs ls 15 [] := by
  obtain ⟨hx, hb, hml, hown, hts, hK⟩ := id C
  unfold gf_Desk_needGear_b15 at h
  obtain rfl := Option.some.inj h
  have hX9 : e.platform.stackTraces = false ∧ xt_Zs (gw_A hs z s.heap.size) s s.heap ∧ 1 ≤ R.cells ∧ 6 ≤ R.slots := hX
  exact xt_throw (k := 3) C hW (fun _ h => Or.inr h) hX9.2.1 hX9.1 hl.1 hk (xt_out hne _) (by decide +kernel) xa_3 gk_680 gk_681 gk_682 gd_Desk_needGear_15 gd_Desk_needGear_18 gd_Desk_needGear_19 gd_Desk_needGear_22 (Nat.le_trans (m := 6) (Nat.le_of_ble_eq_true rfl) hR.1) (Nat.le_trans (m := 120) (Nat.le_of_ble_eq_true rfl) hR.2) hX9.2.2.1 hX9.2.2.2

set_option maxHeartbeats 4000000 in
set_option maxRecDepth 20000 in
theorem gx_Desk_needGear_b0 {p : Program} {l : Launch} {e : Env} {s : State} {m : MethodId} {args : Array Value} {below : List Frame} {meth : Method} {c : Code} {D : va_G} {cA : Nat → ClassId} {hs : Nat → Nat} {z : gw_Sh} (F : Nat) {r0 : ((Unit ⊕ Nat) × gw_St)} (C : gw_Cx p s m args c gb_Desk_needGear 2 R_Desk D cA) (hr : meth.sig.returnType = none) (hk : meth.locks = false) {R : Room} (hR : 6 ≤ R.frames ∧ 120 ≤ R.locals) (hfl : l.flags = pinnedFlags ++ [noTraceFlag]) (hne : c.exceptionTable.isEmpty = true) (hX : xt_Ok e s R hs z r0) (u : gw_St) (t0 : Nat) (x1 : Int32) (o_t0 : gw_ok z t0 0) {H : Heap} {locs : List Loc} {ls : Array Slot} (hW : gw_Wx D cA hs z s u H locs) (hl : lv_has ls 2 [(0, .ref (hs t0)), (1, .int x1)]) (h : gf_Desk_needGear_b0 F z   u t0 x1 = some r0) : gw_Tv p l e R s m args below meth c D cA hs z r0 H locs ls 0 [] := by
  obtain ⟨hx, hb, hml, hown, hts, hK⟩ := id C
  unfold gf_Desk_needGear_b0 at h
  refine lv_iload_n hx hb gd_Desk_needGear_0 rfl (lv_at hl 1 rfl) ?_
  refine lv_if_lt (tgt := 15) hx hb gd_Desk_needGear_1 (by decide) (fun c1 => ?_) (fun c1 => ?_)
  · have h := gf_t c1 h
    exact gx_Desk_needGear_b15 F C hr hk hR hfl hne hX  u   hW (lv_sub hl [] rfl) h
  · have h := gf_f c1 h
    refine lv_iload_n hx hb gd_Desk_needGear_4 rfl (lv_at hl 1 rfl) ?_
    refine lv_aload_n hx hb gd_Desk_needGear_5 rfl (lv_at hl 0 rfl) ?_
    obtain ⟨q2, e3, h⟩ := gf_nn_ok h
    refine gw_getr (k := 1) (ty := 2) (ref := R_Desk) C hW o_t0 (by decide) rfl gi_Desk rfl (by decide) rfl rfl gk_352 gd_Desk_needGear_6 e3 ?_
    have o_q2 := hW.ref (d := 2) o_t0 e3 rfl
    refine gw_geti (k := 2) (ref := R_Works) C hW o_q2 (by decide) rfl gi_Works rfl (by decide) rfl rfl gk_353 gd_Desk_needGear_9 ?_
    refine lv_icmp_lt (tgt := 23) hx hb gd_Desk_needGear_12 (by decide) (fun c4 => ?_) (fun c4 => ?_)
    · have h := gf_t c4 h
      obtain rfl := Option.some.inj h
      exact gw_vret C hW hr hk gd_Desk_needGear_23
    · have h := gf_f c4 h
      exact gx_Desk_needGear_b15 F C hr hk hR hfl hne hX  u   hW (lv_sub hl [] rfl) h

set_option maxRecDepth 20000 in
theorem gc_Desk_needGear (l : Launch) (hfl : l.flags = pinnedFlags ++ [noTraceFlag]) {D : va_G} {cA : Nat → ClassId} {hs : Nat → Nat} {z : gw_Sh} (F : Nat) {u w : gw_St}  {t0 : Nat} {x1 : Int32} (o_t0 : gw_ok z t0 0) (h : gf_Desk_needGear F z u t0 x1 = some (.inl (), w)) (sz : Nat) : gw_Mv l gy_Desk_needGear gb_Desk_needGear 2 none (gw_rm 6 120) [.ref (hs t0), .int x1] D cA hs z u sz w := by
  refine xt_enter0 (by decide) (Nat.le_of_ble_eq_true rfl) ?_
  intro p e s m below meth c ls hsz C hW hr hk hne hl
  subst hsz
  exact gx_Desk_needGear_b0 (e := e) (hs := hs) (z := z) (R := gw_rm 6 120) (r0 := (.inl (), w)) F C hr hk ⟨Nat.le_refl _, Nat.le_refl _⟩ hfl hne trivial u t0 x1 o_t0 hW (lv_sub hl [0, 1] rfl) h
set_option maxRecDepth 20000 in
theorem gt_Desk_needGear (l : Launch) (hfl : l.flags = pinnedFlags ++ [noTraceFlag]) {D : va_G} {cA : Nat → ClassId} {hs : Nat → Nat} {z : gw_Sh} (F : Nat) {u w : gw_St} {k : Nat} {t0 : Nat} {x1 : Int32} (o_t0 : gw_ok z t0 0) (h : gf_Desk_needGear F z u t0 x1 = some (.inr k, w)) (sz : Nat) : gw_Mt l gy_Desk_needGear gb_Desk_needGear 2 none (xt_rm 6 120) [.ref (hs t0), .int x1] D cA hs z u sz k w := by
  refine xt_enter hfl (by decide) (Nat.le_of_ble_eq_true rfl) ?_
  intro p e s m below meth c ls hsz C hW hr hk hne hZ htr hl
  exact gx_Desk_needGear_b0 (e := e) (hs := hs) (z := z) (R := xt_rm 6 120) (r0 := (.inr k, w)) F C hr hk ⟨Nat.le_refl _, Nat.le_refl _⟩ hfl hne ⟨htr, hZ, Nat.le_refl _, Nat.le_refl _⟩ u t0 x1 o_t0 hW (lv_sub hl [0, 1] rfl) h
-- GearDesk.needTwoGears(II)V
theorem gk_701 : Cond.methodLink R_Desk 149 gy_Desk_needGear ∈ gt_T := gt_m4 (List.mem_of_getElem? (i := 203) rfl) rfl
theorem gk_702 : Cond.instanceMethod gy_Desk_needGear ∈ gt_T := gt_m4 (List.mem_of_getElem? (i := 205) rfl) rfl
theorem gk_703 : Cond.selects R_Desk gy_Desk_needGear gy_Desk_needGear ∈ gt_T := gt_p2 (List.mem_of_getElem? (i := 0) rfl) rfl
def gy_Desk_needTwoGears : MethodName := ⟨R_Desk, "needTwoGears", "(II)V"⟩
abbrev gb_Desk_needTwoGears : ByteArray := prog_1_method_27_code
theorem gk_704 : Cond.code gy_Desk_needTwoGears gb_Desk_needTwoGears 3 none ∈ gt_T := gt_m4 (List.mem_of_getElem? (i := 202) rfl) rfl
theorem gm_Desk_needTwoGears : gw_Mth gy_Desk_needTwoGears gb_Desk_needTwoGears 3 none 2 := ⟨gk_704, gk_361, ⟨by decide +kernel, by decide +kernel⟩, by decide +kernel⟩
theorem gd_Desk_needTwoGears_0 : decode gb_Desk_needTwoGears 0 = .ok (.aload_n 0, 1) := by decide +kernel
theorem gd_Desk_needTwoGears_1 : decode gb_Desk_needTwoGears 1 = .ok (.iload_n 1, 1) := by decide +kernel
theorem gd_Desk_needTwoGears_2 : decode gb_Desk_needTwoGears 2 = .ok (.invokevirtual 149, 3) := by decide +kernel
theorem gd_Desk_needTwoGears_5 : decode gb_Desk_needTwoGears 5 = .ok (.aload_n 0, 1) := by decide +kernel
theorem gd_Desk_needTwoGears_6 : decode gb_Desk_needTwoGears 6 = .ok (.iload_n 2, 1) := by decide +kernel
theorem gd_Desk_needTwoGears_7 : decode gb_Desk_needTwoGears 7 = .ok (.invokevirtual 149, 3) := by decide +kernel
theorem gd_Desk_needTwoGears_10 : decode gb_Desk_needTwoGears 10 = .ok (.iload_n 1, 1) := by decide +kernel
theorem gd_Desk_needTwoGears_11 : decode gb_Desk_needTwoGears 11 = .ok (.iload_n 2, 1) := by decide +kernel
theorem gd_Desk_needTwoGears_12 : decode gb_Desk_needTwoGears 12 = .ok (.if_icmp .ne 11, 3) := by decide +kernel
theorem gd_Desk_needTwoGears_15 : decode gb_Desk_needTwoGears 15 = .ok (.new 88, 3) := by decide +kernel
theorem gd_Desk_needTwoGears_18 : decode gb_Desk_needTwoGears 18 = .ok (.dup, 1) := by decide +kernel
theorem gd_Desk_needTwoGears_19 : decode gb_Desk_needTwoGears 19 = .ok (.invokespecial 90, 3) := by decide +kernel
theorem gd_Desk_needTwoGears_22 : decode gb_Desk_needTwoGears 22 = .ok (.athrow, 1) := by decide +kernel
theorem gd_Desk_needTwoGears_23 : decode gb_Desk_needTwoGears 23 = .ok (.return_, 1) := by decide +kernel
def gf_Desk_needTwoGears_b0 (F : Nat) (z : gw_Sh)  (u : gw_St) (t0 : Nat) (x1 : Int32) (x2 : Int32) : Option ((Unit ⊕ Nat) × gw_St) :=
  gf_ct (gf_Desk_needGear F z u t0 x1) fun a3 u1 => gf_ct (gf_Desk_needGear F z u1 t0 x2) fun a7 u5 => if x1 = x2 then (some (.inr 1, u5)) else (some (.inl (), u5))
def gf_Desk_needTwoGears (F : Nat) (z : gw_Sh) (u : gw_St) (t0 : Nat) (x1 : Int32) (x2 : Int32) : Option ((Unit ⊕ Nat) × gw_St) := gf_Desk_needTwoGears_b0 F z  u t0 x1 x2
set_option maxHeartbeats 4000000 in
set_option maxRecDepth 20000 in
theorem gx_Desk_needTwoGears_b0 {p : Program} {l : Launch} {e : Env} {s : State} {m : MethodId} {args : Array Value} {below : List Frame} {meth : Method} {c : Code} {D : va_G} {cA : Nat → ClassId} {hs : Nat → Nat} {z : gw_Sh} (F : Nat) {r0 : ((Unit ⊕ Nat) × gw_St)} (C : gw_Cx p s m args c gb_Desk_needTwoGears 3 R_Desk D cA) (hr : meth.sig.returnType = none) (hk : meth.locks = false) {R : Room} (hR : 7 ≤ R.frames ∧ 141 ≤ R.locals) (hfl : l.flags = pinnedFlags ++ [noTraceFlag]) (hne : c.exceptionTable.isEmpty = true) (hX : xt_Ok e s R hs z r0) (u : gw_St) (t0 : Nat) (x1 : Int32) (x2 : Int32) (o_t0 : gw_ok z t0 0) {H : Heap} {locs : List Loc} {ls : Array Slot} (hW : gw_Wx D cA hs z s u H locs) (hl : lv_has ls 3 [(0, .ref (hs t0)), (1, .int x1), (2, .int x2)]) (h : gf_Desk_needTwoGears_b0 F z   u t0 x1 x2 = some r0) : gw_Tv p l e R s m args below meth c D cA hs z r0 H locs ls 0 [] := by
  obtain ⟨hx, hb, hml, hown, hts, hK⟩ := id C
  unfold gf_Desk_needTwoGears_b0 at h
  refine lv_aload_n hx hb gd_Desk_needTwoGears_0 rfl (lv_at hl 0 rfl) ?_
  refine lv_iload_n hx hb gd_Desk_needTwoGears_1 rfl (lv_at hl 1 rfl) ?_
  rcases gf_ct_ok h with ⟨k4, u1, d2, rfl⟩ | ⟨a3, u1, d2, h⟩
  · have hX9 : e.platform.stackTraces = false ∧ xt_Zs (gw_A hs z s.heap.size) s s.heap ∧ 1 ≤ R.cells ∧ 6 ≤ R.slots := hX
    exact xt_prop (K := R_Desk) (As := [.int x1]) (rest := []) C hW (fun _ h => Or.inr h) hX9.2.1 hl.1 hk hne gm_Desk_needGear (gt_Desk_needGear l hfl F o_t0 d2 _) gk_701 gk_702 gk_703 o_t0 (by decide) rfl rfl rfl ⟨(Nat.le_trans (m := 7) (Nat.le_of_ble_eq_true rfl) hR.1), (Nat.le_trans (m := 141) (Nat.le_of_ble_eq_true rfl) hR.2)⟩ hX9.2.2 rfl rfl (Nat.le_of_ble_eq_true rfl) gd_Desk_needTwoGears_2
  refine gw_callVv (K := R_Desk) (As := [.int x1]) (rest := []) C hW (fun _ h => Or.inr h) hl.1 gm_Desk_needGear (gc_Desk_needGear l hfl F o_t0 d2 _) gk_701 gk_702 gk_703 o_t0 (by decide) rfl rfl rfl ⟨(Nat.le_trans (m := 7) (Nat.le_of_ble_eq_true rfl) hR.1), (Nat.le_trans (m := 141) (Nat.le_of_ble_eq_true rfl) hR.2)⟩ ⟨Nat.zero_le _, Nat.zero_le _⟩ rfl rfl (Nat.le_of_ble_eq_true rfl) gd_Desk_needTwoGears_2 (fun H locs hW => ?_)
  refine lv_aload_n hx hb gd_Desk_needTwoGears_5 rfl (lv_at hl 0 rfl) ?_
  refine lv_iload_n hx hb gd_Desk_needTwoGears_6 rfl (lv_at hl 2 rfl) ?_
  rcases gf_ct_ok h with ⟨k8, u5, d6, rfl⟩ | ⟨a7, u5, d6, h⟩
  · have hX9 : e.platform.stackTraces = false ∧ xt_Zs (gw_A hs z s.heap.size) s s.heap ∧ 1 ≤ R.cells ∧ 6 ≤ R.slots := hX
    exact xt_prop (K := R_Desk) (As := [.int x2]) (rest := []) C hW (fun _ h => Or.inr h) hX9.2.1 hl.1 hk hne gm_Desk_needGear (gt_Desk_needGear l hfl F o_t0 d6 _) gk_701 gk_702 gk_703 o_t0 (by decide) rfl rfl rfl ⟨(Nat.le_trans (m := 7) (Nat.le_of_ble_eq_true rfl) hR.1), (Nat.le_trans (m := 141) (Nat.le_of_ble_eq_true rfl) hR.2)⟩ hX9.2.2 rfl rfl (Nat.le_of_ble_eq_true rfl) gd_Desk_needTwoGears_7
  refine gw_callVv (K := R_Desk) (As := [.int x2]) (rest := []) C hW (fun _ h => Or.inr h) hl.1 gm_Desk_needGear (gc_Desk_needGear l hfl F o_t0 d6 _) gk_701 gk_702 gk_703 o_t0 (by decide) rfl rfl rfl ⟨(Nat.le_trans (m := 7) (Nat.le_of_ble_eq_true rfl) hR.1), (Nat.le_trans (m := 141) (Nat.le_of_ble_eq_true rfl) hR.2)⟩ ⟨Nat.zero_le _, Nat.zero_le _⟩ rfl rfl (Nat.le_of_ble_eq_true rfl) gd_Desk_needTwoGears_7 (fun H locs hW => ?_)
  refine lv_iload_n hx hb gd_Desk_needTwoGears_10 rfl (lv_at hl 1 rfl) ?_
  refine lv_iload_n hx hb gd_Desk_needTwoGears_11 rfl (lv_at hl 2 rfl) ?_
  refine lv_icmp_ne (tgt := 23) hx hb gd_Desk_needTwoGears_12 (by decide) (fun c9 => ?_) (fun c9 => ?_)
  · have h := gf_f c9 h
    obtain rfl := Option.some.inj h
    exact gw_vret C hW hr hk gd_Desk_needTwoGears_23
  · have h := gf_t c9 h
    obtain rfl := Option.some.inj h
    have hX9 : e.platform.stackTraces = false ∧ xt_Zs (gw_A hs z s.heap.size) s s.heap ∧ 1 ≤ R.cells ∧ 6 ≤ R.slots := hX
    exact xt_throw (k := 1) C hW (fun _ h => Or.inr h) hX9.2.1 hX9.1 hl.1 hk (xt_out hne _) (by decide +kernel) xa_1 gk_659 gk_660 gk_661 gd_Desk_needTwoGears_15 gd_Desk_needTwoGears_18 gd_Desk_needTwoGears_19 gd_Desk_needTwoGears_22 (Nat.le_trans (m := 7) (Nat.le_of_ble_eq_true rfl) hR.1) (Nat.le_trans (m := 141) (Nat.le_of_ble_eq_true rfl) hR.2) hX9.2.2.1 hX9.2.2.2

set_option maxRecDepth 20000 in
theorem gc_Desk_needTwoGears (l : Launch) (hfl : l.flags = pinnedFlags ++ [noTraceFlag]) {D : va_G} {cA : Nat → ClassId} {hs : Nat → Nat} {z : gw_Sh} (F : Nat) {u w : gw_St}  {t0 : Nat} {x1 : Int32} {x2 : Int32} (o_t0 : gw_ok z t0 0) (h : gf_Desk_needTwoGears F z u t0 x1 x2 = some (.inl (), w)) (sz : Nat) : gw_Mv l gy_Desk_needTwoGears gb_Desk_needTwoGears 3 none (gw_rm 7 141) [.ref (hs t0), .int x1, .int x2] D cA hs z u sz w := by
  refine xt_enter0 (by decide) (Nat.le_of_ble_eq_true rfl) ?_
  intro p e s m below meth c ls hsz C hW hr hk hne hl
  subst hsz
  exact gx_Desk_needTwoGears_b0 (e := e) (hs := hs) (z := z) (R := gw_rm 7 141) (r0 := (.inl (), w)) F C hr hk ⟨Nat.le_refl _, Nat.le_refl _⟩ hfl hne trivial u t0 x1 x2 o_t0 hW (lv_sub hl [0, 1, 2] rfl) h
set_option maxRecDepth 20000 in
theorem gt_Desk_needTwoGears (l : Launch) (hfl : l.flags = pinnedFlags ++ [noTraceFlag]) {D : va_G} {cA : Nat → ClassId} {hs : Nat → Nat} {z : gw_Sh} (F : Nat) {u w : gw_St} {k : Nat} {t0 : Nat} {x1 : Int32} {x2 : Int32} (o_t0 : gw_ok z t0 0) (h : gf_Desk_needTwoGears F z u t0 x1 x2 = some (.inr k, w)) (sz : Nat) : gw_Mt l gy_Desk_needTwoGears gb_Desk_needTwoGears 3 none (xt_rm 7 141) [.ref (hs t0), .int x1, .int x2] D cA hs z u sz k w := by
  refine xt_enter hfl (by decide) (Nat.le_of_ble_eq_true rfl) ?_
  intro p e s m below meth c ls hsz C hW hr hk hne hZ htr hl
  exact gx_Desk_needTwoGears_b0 (e := e) (hs := hs) (z := z) (R := xt_rm 7 141) (r0 := (.inr k, w)) F C hr hk ⟨Nat.le_refl _, Nat.le_refl _⟩ hfl hne ⟨htr, hZ, Nat.le_refl _, Nat.le_refl _⟩ u t0 x1 x2 o_t0 hW (lv_sub hl [0, 1, 2] rfl) h
-- GearDesk.needRoomForRelation()V
def gy_Desk_needRoomForRelation : MethodName := ⟨R_Desk, "needRoomForRelation", "()V"⟩
abbrev gb_Desk_needRoomForRelation : ByteArray := prog_1_method_28_code
theorem gk_705 : Cond.code gy_Desk_needRoomForRelation gb_Desk_needRoomForRelation 1 none ∈ gt_T := gt_m4 (List.mem_of_getElem? (i := 210) rfl) rfl
theorem gm_Desk_needRoomForRelation : gw_Mth gy_Desk_needRoomForRelation gb_Desk_needRoomForRelation 1 none 0 := ⟨gk_705, gk_361, ⟨by decide +kernel, by decide +kernel⟩, by decide +kernel⟩
theorem gd_Desk_needRoomForRelation_0 : decode gb_Desk_needRoomForRelation 0 = .ok (.aload_n 0, 1) := by decide +kernel
theorem gd_Desk_needRoomForRelation_1 : decode gb_Desk_needRoomForRelation 1 = .ok (.getfield 19, 3) := by decide +kernel
theorem gd_Desk_needRoomForRelation_4 : decode gb_Desk_needRoomForRelation 4 = .ok (.getfield 158, 3) := by decide +kernel
theorem gd_Desk_needRoomForRelation_7 : decode gb_Desk_needRoomForRelation 7 = .ok (.bipush 120, 2) := by decide +kernel
theorem gd_Desk_needRoomForRelation_9 : decode gb_Desk_needRoomForRelation 9 = .ok (.if_icmp .ne 11, 3) := by decide +kernel
theorem gd_Desk_needRoomForRelation_12 : decode gb_Desk_needRoomForRelation 12 = .ok (.new 100, 3) := by decide +kernel
theorem gd_Desk_needRoomForRelation_15 : decode gb_Desk_needRoomForRelation 15 = .ok (.dup, 1) := by decide +kernel
theorem gd_Desk_needRoomForRelation_16 : decode gb_Desk_needRoomForRelation 16 = .ok (.invokespecial 102, 3) := by decide +kernel
theorem gd_Desk_needRoomForRelation_19 : decode gb_Desk_needRoomForRelation 19 = .ok (.athrow, 1) := by decide +kernel
theorem gd_Desk_needRoomForRelation_20 : decode gb_Desk_needRoomForRelation 20 = .ok (.return_, 1) := by decide +kernel
def gf_Desk_needRoomForRelation_b0 (F : Nat) (z : gw_Sh)  (u : gw_St) (t0 : Nat) : Option ((Unit ⊕ Nat) × gw_St) :=
  gf_nn (u.2.2 t0 1) fun q1 => if (u.1 q1 3) = (120 : Int32) then (some (.inr 2, u)) else (some (.inl (), u))
def gf_Desk_needRoomForRelation (F : Nat) (z : gw_Sh) (u : gw_St) (t0 : Nat) : Option ((Unit ⊕ Nat) × gw_St) := gf_Desk_needRoomForRelation_b0 F z  u t0
set_option maxHeartbeats 4000000 in
set_option maxRecDepth 20000 in
theorem gx_Desk_needRoomForRelation_b0 {p : Program} {l : Launch} {e : Env} {s : State} {m : MethodId} {args : Array Value} {below : List Frame} {meth : Method} {c : Code} {D : va_G} {cA : Nat → ClassId} {hs : Nat → Nat} {z : gw_Sh} (F : Nat) {r0 : ((Unit ⊕ Nat) × gw_St)} (C : gw_Cx p s m args c gb_Desk_needRoomForRelation 1 R_Desk D cA) (hr : meth.sig.returnType = none) (hk : meth.locks = false) {R : Room} (hR : 6 ≤ R.frames ∧ 120 ≤ R.locals) (hfl : l.flags = pinnedFlags ++ [noTraceFlag]) (hne : c.exceptionTable.isEmpty = true) (hX : xt_Ok e s R hs z r0) (u : gw_St) (t0 : Nat) (o_t0 : gw_ok z t0 0) {H : Heap} {locs : List Loc} {ls : Array Slot} (hW : gw_Wx D cA hs z s u H locs) (hl : lv_has ls 1 [(0, .ref (hs t0))]) (h : gf_Desk_needRoomForRelation_b0 F z   u t0 = some r0) : gw_Tv p l e R s m args below meth c D cA hs z r0 H locs ls 0 [] := by
  obtain ⟨hx, hb, hml, hown, hts, hK⟩ := id C
  unfold gf_Desk_needRoomForRelation_b0 at h
  refine lv_aload_n hx hb gd_Desk_needRoomForRelation_0 rfl (lv_at hl 0 rfl) ?_
  obtain ⟨q1, e2, h⟩ := gf_nn_ok h
  refine gw_getr (k := 1) (ty := 2) (ref := R_Desk) C hW o_t0 (by decide) rfl gi_Desk rfl (by decide) rfl rfl gk_352 gd_Desk_needRoomForRelation_1 e2 ?_
  have o_q1 := hW.ref (d := 2) o_t0 e2 rfl
  refine gw_geti (k := 3) (ref := R_Works) C hW o_q1 (by decide) rfl gi_Works rfl (by decide) rfl rfl gk_364 gd_Desk_needRoomForRelation_4 ?_
  refine lv_bipush (v := 120) hx hb gd_Desk_needRoomForRelation_7 (by decide) ?_
  refine lv_icmp_ne (tgt := 20) hx hb gd_Desk_needRoomForRelation_9 (by decide) (fun c3 => ?_) (fun c3 => ?_)
  · have h := gf_f c3 h
    obtain rfl := Option.some.inj h
    exact gw_vret C hW hr hk gd_Desk_needRoomForRelation_20
  · have h := gf_t c3 h
    obtain rfl := Option.some.inj h
    have hX9 : e.platform.stackTraces = false ∧ xt_Zs (gw_A hs z s.heap.size) s s.heap ∧ 1 ≤ R.cells ∧ 6 ≤ R.slots := hX
    exact xt_throw (k := 2) C hW (fun _ h => Or.inr h) hX9.2.1 hX9.1 hl.1 hk (xt_out hne _) (by decide +kernel) xa_2 gk_675 gk_676 gk_677 gd_Desk_needRoomForRelation_12 gd_Desk_needRoomForRelation_15 gd_Desk_needRoomForRelation_16 gd_Desk_needRoomForRelation_19 (Nat.le_trans (m := 6) (Nat.le_of_ble_eq_true rfl) hR.1) (Nat.le_trans (m := 120) (Nat.le_of_ble_eq_true rfl) hR.2) hX9.2.2.1 hX9.2.2.2

set_option maxRecDepth 20000 in
theorem gc_Desk_needRoomForRelation (l : Launch) (hfl : l.flags = pinnedFlags ++ [noTraceFlag]) {D : va_G} {cA : Nat → ClassId} {hs : Nat → Nat} {z : gw_Sh} (F : Nat) {u w : gw_St}  {t0 : Nat} (o_t0 : gw_ok z t0 0) (h : gf_Desk_needRoomForRelation F z u t0 = some (.inl (), w)) (sz : Nat) : gw_Mv l gy_Desk_needRoomForRelation gb_Desk_needRoomForRelation 1 none (gw_rm 6 120) [.ref (hs t0)] D cA hs z u sz w := by
  refine xt_enter0 (by decide) (Nat.le_of_ble_eq_true rfl) ?_
  intro p e s m below meth c ls hsz C hW hr hk hne hl
  subst hsz
  exact gx_Desk_needRoomForRelation_b0 (e := e) (hs := hs) (z := z) (R := gw_rm 6 120) (r0 := (.inl (), w)) F C hr hk ⟨Nat.le_refl _, Nat.le_refl _⟩ hfl hne trivial u t0 o_t0 hW (lv_sub hl [0] rfl) h
set_option maxRecDepth 20000 in
theorem gt_Desk_needRoomForRelation (l : Launch) (hfl : l.flags = pinnedFlags ++ [noTraceFlag]) {D : va_G} {cA : Nat → ClassId} {hs : Nat → Nat} {z : gw_Sh} (F : Nat) {u w : gw_St} {k : Nat} {t0 : Nat} (o_t0 : gw_ok z t0 0) (h : gf_Desk_needRoomForRelation F z u t0 = some (.inr k, w)) (sz : Nat) : gw_Mt l gy_Desk_needRoomForRelation gb_Desk_needRoomForRelation 1 none (xt_rm 6 120) [.ref (hs t0)] D cA hs z u sz k w := by
  refine xt_enter hfl (by decide) (Nat.le_of_ble_eq_true rfl) ?_
  intro p e s m below meth c ls hsz C hW hr hk hne hZ htr hl
  exact gx_Desk_needRoomForRelation_b0 (e := e) (hs := hs) (z := z) (R := xt_rm 6 120) (r0 := (.inr k, w)) F C hr hk ⟨Nat.le_refl _, Nat.le_refl _⟩ hfl hne ⟨htr, hZ, Nat.le_refl _, Nat.le_refl _⟩ u t0 o_t0 hW (lv_sub hl [0] rfl) h
-- GearDesk.mesh(II)I
theorem gk_706 : Cond.methodLink R_Desk 135 gy_Desk_needTwoGears ∈ gt_T := gt_m4 (List.mem_of_getElem? (i := 199) rfl) rfl
theorem gk_707 : Cond.instanceMethod gy_Desk_needTwoGears ∈ gt_T := gt_m4 (List.mem_of_getElem? (i := 201) rfl) rfl
theorem gk_708 : Cond.selects R_Desk gy_Desk_needTwoGears gy_Desk_needTwoGears ∈ gt_T := gt_p1 (List.mem_of_getElem? (i := 15) rfl) rfl
theorem gk_709 : Cond.methodLink R_Desk 139 gy_Desk_needRoomForRelation ∈ gt_T := gt_m4 (List.mem_of_getElem? (i := 207) rfl) rfl
theorem gk_710 : Cond.instanceMethod gy_Desk_needRoomForRelation ∈ gt_T := gt_m4 (List.mem_of_getElem? (i := 209) rfl) rfl
theorem gk_711 : Cond.selects R_Desk gy_Desk_needRoomForRelation gy_Desk_needRoomForRelation ∈ gt_T := gt_p2 (List.mem_of_getElem? (i := 1) rfl) rfl
theorem gk_712 : Cond.methodLink R_Desk 142 gy_Works_addRelation ∈ gt_T := gt_m4 (List.mem_of_getElem? (i := 211) rfl) rfl
theorem gk_713 : Cond.instanceMethod gy_Works_addRelation ∈ gt_T := gt_m4 (List.mem_of_getElem? (i := 212) rfl) rfl
theorem gk_714 : Cond.selects R_Works gy_Works_addRelation gy_Works_addRelation ∈ gt_T := gt_m4 (List.mem_of_getElem? (i := 213) rfl) rfl
def gy_Desk_mesh : MethodName := ⟨R_Desk, "mesh", "(II)I"⟩
abbrev gb_Desk_mesh : ByteArray := prog_1_method_8_code
theorem gk_715 : Cond.code gy_Desk_mesh gb_Desk_mesh 3 (some .int) ∈ gt_T := gt_m4 (List.mem_of_getElem? (i := 198) rfl) rfl
theorem gm_Desk_mesh : gw_Mth gy_Desk_mesh gb_Desk_mesh 3 (some .int) 2 := ⟨gk_715, gk_361, ⟨by decide +kernel, by decide +kernel⟩, by decide +kernel⟩
theorem gd_Desk_mesh_0 : decode gb_Desk_mesh 0 = .ok (.aload_n 0, 1) := by decide +kernel
theorem gd_Desk_mesh_1 : decode gb_Desk_mesh 1 = .ok (.iload_n 1, 1) := by decide +kernel
theorem gd_Desk_mesh_2 : decode gb_Desk_mesh 2 = .ok (.iload_n 2, 1) := by decide +kernel
theorem gd_Desk_mesh_3 : decode gb_Desk_mesh 3 = .ok (.invokevirtual 135, 3) := by decide +kernel
theorem gd_Desk_mesh_6 : decode gb_Desk_mesh 6 = .ok (.aload_n 0, 1) := by decide +kernel
theorem gd_Desk_mesh_7 : decode gb_Desk_mesh 7 = .ok (.invokevirtual 139, 3) := by decide +kernel
theorem gd_Desk_mesh_10 : decode gb_Desk_mesh 10 = .ok (.aload_n 0, 1) := by decide +kernel
theorem gd_Desk_mesh_11 : decode gb_Desk_mesh 11 = .ok (.getfield 19, 3) := by decide +kernel
theorem gd_Desk_mesh_14 : decode gb_Desk_mesh 14 = .ok (.iconst 0, 1) := by decide +kernel
theorem gd_Desk_mesh_15 : decode gb_Desk_mesh 15 = .ok (.iload_n 1, 1) := by decide +kernel
theorem gd_Desk_mesh_16 : decode gb_Desk_mesh 16 = .ok (.iload_n 2, 1) := by decide +kernel
theorem gd_Desk_mesh_17 : decode gb_Desk_mesh 17 = .ok (.iconst (-1), 1) := by decide +kernel
theorem gd_Desk_mesh_18 : decode gb_Desk_mesh 18 = .ok (.invokevirtual 142, 3) := by decide +kernel
theorem gd_Desk_mesh_21 : decode gb_Desk_mesh 21 = .ok (.ireturn, 1) := by decide +kernel
def gf_Desk_mesh_b0 (F : Nat) (z : gw_Sh)  (u : gw_St) (t0 : Nat) (x1 : Int32) (x2 : Int32) : Option ((Int32 ⊕ Nat) × gw_St) :=
  gf_ct (gf_Desk_needTwoGears F z u t0 x1 x2) fun a3 u1 => gf_ct (gf_Desk_needRoomForRelation F z u1 t0) fun a7 u5 => gf_nn (u5.2.2 t0 1) fun q9 => gf_cl (gf_Works_addRelation F z u5 q9 (0 : Int32) x1 x2 (-1 : Int32)) fun a13 u11 => some (.inl a13, u11)
def gf_Desk_mesh (F : Nat) (z : gw_Sh) (u : gw_St) (t0 : Nat) (x1 : Int32) (x2 : Int32) : Option ((Int32 ⊕ Nat) × gw_St) := gf_Desk_mesh_b0 F z  u t0 x1 x2
set_option maxHeartbeats 4000000 in
set_option maxRecDepth 20000 in
theorem gx_Desk_mesh_b0 {p : Program} {l : Launch} {e : Env} {s : State} {m : MethodId} {args : Array Value} {below : List Frame} {meth : Method} {c : Code} {D : va_G} {cA : Nat → ClassId} {hs : Nat → Nat} {z : gw_Sh} (F : Nat) {r0 : ((Int32 ⊕ Nat) × gw_St)} (C : gw_Cx p s m args c gb_Desk_mesh 3 R_Desk D cA) (hr : meth.sig.returnType = (some .int)) (hk : meth.locks = false) {R : Room} (hR : 8 ≤ R.frames ∧ 163 ≤ R.locals) (hfl : l.flags = pinnedFlags ++ [noTraceFlag]) (hne : c.exceptionTable.isEmpty = true) (hX : xt_Ok e s R hs z r0) (u : gw_St) (t0 : Nat) (x1 : Int32) (x2 : Int32) (o_t0 : gw_ok z t0 0) {H : Heap} {locs : List Loc} {ls : Array Slot} (hW : gw_Wx D cA hs z s u H locs) (hl : lv_has ls 3 [(0, .ref (hs t0)), (1, .int x1), (2, .int x2)]) (h : gf_Desk_mesh_b0 F z   u t0 x1 x2 = some r0) : gw_Ti p l e R s m args below meth c D cA hs z r0 H locs ls 0 [] := by
  obtain ⟨hx, hb, hml, hown, hts, hK⟩ := id C
  unfold gf_Desk_mesh_b0 at h
  refine lv_aload_n hx hb gd_Desk_mesh_0 rfl (lv_at hl 0 rfl) ?_
  refine lv_iload_n hx hb gd_Desk_mesh_1 rfl (lv_at hl 1 rfl) ?_
  refine lv_iload_n hx hb gd_Desk_mesh_2 rfl (lv_at hl 2 rfl) ?_
  rcases gf_ct_ok h with ⟨k4, u1, d2, rfl⟩ | ⟨a3, u1, d2, h⟩
  · have hX9 : e.platform.stackTraces = false ∧ xt_Zs (gw_A hs z s.heap.size) s s.heap ∧ 1 ≤ R.cells ∧ 6 ≤ R.slots := hX
    exact xt_prop (K := R_Desk) (As := [.int x1, .int x2]) (rest := []) C hW (fun _ h => Or.inr h) hX9.2.1 hl.1 hk hne gm_Desk_needTwoGears (gt_Desk_needTwoGears l hfl F o_t0 d2 _) gk_706 gk_707 gk_708 o_t0 (by decide) rfl rfl rfl ⟨(Nat.le_trans (m := 8) (Nat.le_of_ble_eq_true rfl) hR.1), (Nat.le_trans (m := 163) (Nat.le_of_ble_eq_true rfl) hR.2)⟩ hX9.2.2 rfl rfl (Nat.le_of_ble_eq_true rfl) gd_Desk_mesh_3
  refine gw_callVv (K := R_Desk) (As := [.int x1, .int x2]) (rest := []) C hW (fun _ h => Or.inr h) hl.1 gm_Desk_needTwoGears (gc_Desk_needTwoGears l hfl F o_t0 d2 _) gk_706 gk_707 gk_708 o_t0 (by decide) rfl rfl rfl ⟨(Nat.le_trans (m := 8) (Nat.le_of_ble_eq_true rfl) hR.1), (Nat.le_trans (m := 163) (Nat.le_of_ble_eq_true rfl) hR.2)⟩ ⟨Nat.zero_le _, Nat.zero_le _⟩ rfl rfl (Nat.le_of_ble_eq_true rfl) gd_Desk_mesh_3 (fun H locs hW => ?_)
  refine lv_aload_n hx hb gd_Desk_mesh_6 rfl (lv_at hl 0 rfl) ?_
  rcases gf_ct_ok h with ⟨k8, u5, d6, rfl⟩ | ⟨a7, u5, d6, h⟩
  · have hX9 : e.platform.stackTraces = false ∧ xt_Zs (gw_A hs z s.heap.size) s s.heap ∧ 1 ≤ R.cells ∧ 6 ≤ R.slots := hX
    exact xt_prop (K := R_Desk) (As := []) (rest := []) C hW (fun _ h => Or.inr h) hX9.2.1 hl.1 hk hne gm_Desk_needRoomForRelation (gt_Desk_needRoomForRelation l hfl F o_t0 d6 _) gk_709 gk_710 gk_711 o_t0 (by decide) rfl rfl rfl ⟨(Nat.le_trans (m := 8) (Nat.le_of_ble_eq_true rfl) hR.1), (Nat.le_trans (m := 163) (Nat.le_of_ble_eq_true rfl) hR.2)⟩ hX9.2.2 rfl rfl (Nat.le_of_ble_eq_true rfl) gd_Desk_mesh_7
  refine gw_callVv (K := R_Desk) (As := []) (rest := []) C hW (fun _ h => Or.inr h) hl.1 gm_Desk_needRoomForRelation (gc_Desk_needRoomForRelation l hfl F o_t0 d6 _) gk_709 gk_710 gk_711 o_t0 (by decide) rfl rfl rfl ⟨(Nat.le_trans (m := 8) (Nat.le_of_ble_eq_true rfl) hR.1), (Nat.le_trans (m := 163) (Nat.le_of_ble_eq_true rfl) hR.2)⟩ ⟨Nat.zero_le _, Nat.zero_le _⟩ rfl rfl (Nat.le_of_ble_eq_true rfl) gd_Desk_mesh_7 (fun H locs hW => ?_)
  refine lv_aload_n hx hb gd_Desk_mesh_10 rfl (lv_at hl 0 rfl) ?_
  obtain ⟨q9, e10, h⟩ := gf_nn_ok h
  refine gw_getr (k := 1) (ty := 2) (ref := R_Desk) C hW o_t0 (by decide) rfl gi_Desk rfl (by decide) rfl rfl gk_352 gd_Desk_mesh_11 e10 ?_
  have o_q9 := hW.ref (d := 2) o_t0 e10 rfl
  refine lv_iconst (v := 0) hx hb gd_Desk_mesh_14 (by decide) ?_
  refine lv_iload_n hx hb gd_Desk_mesh_15 rfl (lv_at hl 1 rfl) ?_
  refine lv_iload_n hx hb gd_Desk_mesh_16 rfl (lv_at hl 2 rfl) ?_
  refine lv_iconst (v := (-1)) hx hb gd_Desk_mesh_17 (by decide) ?_
  obtain ⟨a13, u11, d12, h⟩ := gf_cl_ok h
  refine gw_callVi (K := R_Works) (As := [.int (0 : Int32), .int x1, .int x2, .int (-1 : Int32)]) (rest := []) C hW (fun _ h => Or.inr h) hl.1 gm_Works_addRelation (gc_Works_addRelation l F o_q9 d12 _) gk_712 gk_713 gk_714 o_q9 (by decide) rfl rfl rfl ⟨(Nat.le_trans (m := 8) (Nat.le_of_ble_eq_true rfl) hR.1), (Nat.le_trans (m := 163) (Nat.le_of_ble_eq_true rfl) hR.2)⟩ ⟨Nat.zero_le _, Nat.zero_le _⟩ rfl rfl (Nat.le_of_ble_eq_true rfl) gd_Desk_mesh_18 (fun H locs hW => ?_)
  obtain rfl := Option.some.inj h
  exact gw_iret C hW hr hk gd_Desk_mesh_21

set_option maxRecDepth 20000 in
theorem gc_Desk_mesh (l : Launch) (hfl : l.flags = pinnedFlags ++ [noTraceFlag]) {D : va_G} {cA : Nat → ClassId} {hs : Nat → Nat} {z : gw_Sh} (F : Nat) {u w : gw_St} {v : Int32} {t0 : Nat} {x1 : Int32} {x2 : Int32} (o_t0 : gw_ok z t0 0) (h : gf_Desk_mesh F z u t0 x1 x2 = some (.inl v, w)) (sz : Nat) : gw_Mi l gy_Desk_mesh gb_Desk_mesh 3 (some .int) (gw_rm 8 163) [.ref (hs t0), .int x1, .int x2] D cA hs z u sz (v, w) := by
  refine xt_enter0 (by decide) (Nat.le_of_ble_eq_true rfl) ?_
  intro p e s m below meth c ls hsz C hW hr hk hne hl
  subst hsz
  exact gx_Desk_mesh_b0 (e := e) (hs := hs) (z := z) (R := gw_rm 8 163) (r0 := (.inl v, w)) F C hr hk ⟨Nat.le_refl _, Nat.le_refl _⟩ hfl hne trivial u t0 x1 x2 o_t0 hW (lv_sub hl [0, 1, 2] rfl) h
set_option maxRecDepth 20000 in
theorem gt_Desk_mesh (l : Launch) (hfl : l.flags = pinnedFlags ++ [noTraceFlag]) {D : va_G} {cA : Nat → ClassId} {hs : Nat → Nat} {z : gw_Sh} (F : Nat) {u w : gw_St} {k : Nat} {t0 : Nat} {x1 : Int32} {x2 : Int32} (o_t0 : gw_ok z t0 0) (h : gf_Desk_mesh F z u t0 x1 x2 = some (.inr k, w)) (sz : Nat) : gw_Mt l gy_Desk_mesh gb_Desk_mesh 3 (some .int) (xt_rm 8 163) [.ref (hs t0), .int x1, .int x2] D cA hs z u sz k w := by
  refine xt_enter hfl (by decide) (Nat.le_of_ble_eq_true rfl) ?_
  intro p e s m below meth c ls hsz C hW hr hk hne hZ htr hl
  exact gx_Desk_mesh_b0 (e := e) (hs := hs) (z := z) (R := xt_rm 8 163) (r0 := (.inr k, w)) F C hr hk ⟨Nat.le_refl _, Nat.le_refl _⟩ hfl hne ⟨htr, hZ, Nat.le_refl _, Nat.le_refl _⟩ u t0 x1 x2 o_t0 hW (lv_sub hl [0, 1, 2] rfl) h
-- GearDesk.inner(II)I
theorem gk_716 : Cond.fieldLink R_Desk 146 R_Works "teeth" "[I" ∈ gt_T := gt_m1 (List.mem_of_getElem? (i := 109) rfl) rfl
def gy_Desk_inner : MethodName := ⟨R_Desk, "inner", "(II)I"⟩
abbrev gb_Desk_inner : ByteArray := prog_1_method_9_code
theorem gk_717 : Cond.code gy_Desk_inner gb_Desk_inner 3 (some .int) ∈ gt_T := gt_m4 (List.mem_of_getElem? (i := 221) rfl) rfl
theorem gm_Desk_inner : gw_Mth gy_Desk_inner gb_Desk_inner 3 (some .int) 2 := ⟨gk_717, gk_361, ⟨by decide +kernel, by decide +kernel⟩, by decide +kernel⟩
theorem gd_Desk_inner_0 : decode gb_Desk_inner 0 = .ok (.aload_n 0, 1) := by decide +kernel
theorem gd_Desk_inner_1 : decode gb_Desk_inner 1 = .ok (.iload_n 1, 1) := by decide +kernel
theorem gd_Desk_inner_2 : decode gb_Desk_inner 2 = .ok (.iload_n 2, 1) := by decide +kernel
theorem gd_Desk_inner_3 : decode gb_Desk_inner 3 = .ok (.invokevirtual 135, 3) := by decide +kernel
theorem gd_Desk_inner_6 : decode gb_Desk_inner 6 = .ok (.aload_n 0, 1) := by decide +kernel
theorem gd_Desk_inner_7 : decode gb_Desk_inner 7 = .ok (.getfield 19, 3) := by decide +kernel
theorem gd_Desk_inner_10 : decode gb_Desk_inner 10 = .ok (.getfield 146, 3) := by decide +kernel
theorem gd_Desk_inner_13 : decode gb_Desk_inner 13 = .ok (.iload_n 2, 1) := by decide +kernel
theorem gd_Desk_inner_14 : decode gb_Desk_inner 14 = .ok (.iaload, 1) := by decide +kernel
theorem gd_Desk_inner_15 : decode gb_Desk_inner 15 = .ok (.aload_n 0, 1) := by decide +kernel
theorem gd_Desk_inner_16 : decode gb_Desk_inner 16 = .ok (.getfield 19, 3) := by decide +kernel
theorem gd_Desk_inner_19 : decode gb_Desk_inner 19 = .ok (.getfield 146, 3) := by decide +kernel
theorem gd_Desk_inner_22 : decode gb_Desk_inner 22 = .ok (.iload_n 1, 1) := by decide +kernel
theorem gd_Desk_inner_23 : decode gb_Desk_inner 23 = .ok (.iaload, 1) := by decide +kernel
theorem gd_Desk_inner_24 : decode gb_Desk_inner 24 = .ok (.if_icmp .gt 11, 3) := by decide +kernel
theorem gd_Desk_inner_27 : decode gb_Desk_inner 27 = .ok (.new 88, 3) := by decide +kernel
theorem gd_Desk_inner_30 : decode gb_Desk_inner 30 = .ok (.dup, 1) := by decide +kernel
theorem gd_Desk_inner_31 : decode gb_Desk_inner 31 = .ok (.invokespecial 90, 3) := by decide +kernel
theorem gd_Desk_inner_34 : decode gb_Desk_inner 34 = .ok (.athrow, 1) := by decide +kernel
theorem gd_Desk_inner_35 : decode gb_Desk_inner 35 = .ok (.aload_n 0, 1) := by decide +kernel
theorem gd_Desk_inner_36 : decode gb_Desk_inner 36 = .ok (.invokevirtual 139, 3) := by decide +kernel
theorem gd_Desk_inner_39 : decode gb_Desk_inner 39 = .ok (.aload_n 0, 1) := by decide +kernel
theorem gd_Desk_inner_40 : decode gb_Desk_inner 40 = .ok (.getfield 19, 3) := by decide +kernel
theorem gd_Desk_inner_43 : decode gb_Desk_inner 43 = .ok (.iconst 1, 1) := by decide +kernel
theorem gd_Desk_inner_44 : decode gb_Desk_inner 44 = .ok (.iload_n 1, 1) := by decide +kernel
theorem gd_Desk_inner_45 : decode gb_Desk_inner 45 = .ok (.iload_n 2, 1) := by decide +kernel
theorem gd_Desk_inner_46 : decode gb_Desk_inner 46 = .ok (.iconst (-1), 1) := by decide +kernel
theorem gd_Desk_inner_47 : decode gb_Desk_inner 47 = .ok (.invokevirtual 142, 3) := by decide +kernel
theorem gd_Desk_inner_50 : decode gb_Desk_inner 50 = .ok (.ireturn, 1) := by decide +kernel
def gf_Desk_inner_b0 (F : Nat) (z : gw_Sh)  (u : gw_St) (t0 : Nat) (x1 : Int32) (x2 : Int32) : Option ((Int32 ⊕ Nat) × gw_St) :=
  gf_ct (gf_Desk_needTwoGears F z u t0 x1 x2) fun a3 u1 => gf_nn (u1.2.2 t0 1) fun q5 => gf_nn (u1.2.2 q5 0) fun q7 => if (x2 < 0 ∨ z.2.2 q7 ≤ (x2).toNatClampNeg) then none else gf_nn (u1.2.2 t0 1) fun q10 => gf_nn (u1.2.2 q10 0) fun q12 => if (x1 < 0 ∨ z.2.2 q12 ≤ (x1).toNatClampNeg) then none else if (u1.1 q12 (x1).toNatClampNeg) < (u1.1 q7 (x2).toNatClampNeg) then (gf_ct (gf_Desk_needRoomForRelation F z u1 t0) fun a18 u16 => gf_nn (u16.2.2 t0 1) fun q20 => gf_cl (gf_Works_addRelation F z u16 q20 (1 : Int32) x1 x2 (-1 : Int32)) fun a24 u22 => some (.inl a24, u22)) else (some (.inr 1, u1))
def gf_Desk_inner (F : Nat) (z : gw_Sh) (u : gw_St) (t0 : Nat) (x1 : Int32) (x2 : Int32) : Option ((Int32 ⊕ Nat) × gw_St) := gf_Desk_inner_b0 F z  u t0 x1 x2
set_option maxHeartbeats 4000000 in
set_option maxRecDepth 20000 in
theorem gx_Desk_inner_b0 {p : Program} {l : Launch} {e : Env} {s : State} {m : MethodId} {args : Array Value} {below : List Frame} {meth : Method} {c : Code} {D : va_G} {cA : Nat → ClassId} {hs : Nat → Nat} {z : gw_Sh} (F : Nat) {r0 : ((Int32 ⊕ Nat) × gw_St)} (C : gw_Cx p s m args c gb_Desk_inner 3 R_Desk D cA) (hr : meth.sig.returnType = (some .int)) (hk : meth.locks = false) {R : Room} (hR : 8 ≤ R.frames ∧ 163 ≤ R.locals) (hfl : l.flags = pinnedFlags ++ [noTraceFlag]) (hne : c.exceptionTable.isEmpty = true) (hX : xt_Ok e s R hs z r0) (u : gw_St) (t0 : Nat) (x1 : Int32) (x2 : Int32) (o_t0 : gw_ok z t0 0) {H : Heap} {locs : List Loc} {ls : Array Slot} (hW : gw_Wx D cA hs z s u H locs) (hl : lv_has ls 3 [(0, .ref (hs t0)), (1, .int x1), (2, .int x2)]) (h : gf_Desk_inner_b0 F z   u t0 x1 x2 = some r0) : gw_Ti p l e R s m args below meth c D cA hs z r0 H locs ls 0 [] := by
  obtain ⟨hx, hb, hml, hown, hts, hK⟩ := id C
  unfold gf_Desk_inner_b0 at h
  refine lv_aload_n hx hb gd_Desk_inner_0 rfl (lv_at hl 0 rfl) ?_
  refine lv_iload_n hx hb gd_Desk_inner_1 rfl (lv_at hl 1 rfl) ?_
  refine lv_iload_n hx hb gd_Desk_inner_2 rfl (lv_at hl 2 rfl) ?_
  rcases gf_ct_ok h with ⟨k4, u1, d2, rfl⟩ | ⟨a3, u1, d2, h⟩
  · have hX9 : e.platform.stackTraces = false ∧ xt_Zs (gw_A hs z s.heap.size) s s.heap ∧ 1 ≤ R.cells ∧ 6 ≤ R.slots := hX
    exact xt_prop (K := R_Desk) (As := [.int x1, .int x2]) (rest := []) C hW (fun _ h => Or.inr h) hX9.2.1 hl.1 hk hne gm_Desk_needTwoGears (gt_Desk_needTwoGears l hfl F o_t0 d2 _) gk_706 gk_707 gk_708 o_t0 (by decide) rfl rfl rfl ⟨(Nat.le_trans (m := 8) (Nat.le_of_ble_eq_true rfl) hR.1), (Nat.le_trans (m := 163) (Nat.le_of_ble_eq_true rfl) hR.2)⟩ hX9.2.2 rfl rfl (Nat.le_of_ble_eq_true rfl) gd_Desk_inner_3
  refine gw_callVv (K := R_Desk) (As := [.int x1, .int x2]) (rest := []) C hW (fun _ h => Or.inr h) hl.1 gm_Desk_needTwoGears (gc_Desk_needTwoGears l hfl F o_t0 d2 _) gk_706 gk_707 gk_708 o_t0 (by decide) rfl rfl rfl ⟨(Nat.le_trans (m := 8) (Nat.le_of_ble_eq_true rfl) hR.1), (Nat.le_trans (m := 163) (Nat.le_of_ble_eq_true rfl) hR.2)⟩ ⟨Nat.zero_le _, Nat.zero_le _⟩ rfl rfl (Nat.le_of_ble_eq_true rfl) gd_Desk_inner_3 (fun H locs hW => ?_)
  refine lv_aload_n hx hb gd_Desk_inner_6 rfl (lv_at hl 0 rfl) ?_
  obtain ⟨q5, e6, h⟩ := gf_nn_ok h
  refine gw_getr (k := 1) (ty := 2) (ref := R_Desk) C hW o_t0 (by decide) rfl gi_Desk rfl (by decide) rfl rfl gk_352 gd_Desk_inner_7 e6 ?_
  have o_q5 := hW.ref (d := 2) o_t0 e6 rfl
  obtain ⟨q7, e8, h⟩ := gf_nn_ok h
  refine gw_getr (k := 0) (ty := 10) (ref := R_Works) C hW o_q5 (by decide) rfl gi_Works rfl (by decide) rfl rfl gk_716 gd_Desk_inner_10 e8 ?_
  have o_q7 := hW.ref (d := 10) o_q5 e8 rfl
  refine lv_iload_n hx hb gd_Desk_inner_13 rfl (lv_at hl 2 rfl) ?_
  obtain ⟨g9, h⟩ := gf_if_ok h
  refine gw_iald C hW o_q7 g9 gd_Desk_inner_14 ?_
  refine lv_aload_n hx hb gd_Desk_inner_15 rfl (lv_at hl 0 rfl) ?_
  obtain ⟨q10, e11, h⟩ := gf_nn_ok h
  refine gw_getr (k := 1) (ty := 2) (ref := R_Desk) C hW o_t0 (by decide) rfl gi_Desk rfl (by decide) rfl rfl gk_352 gd_Desk_inner_16 e11 ?_
  have o_q10 := hW.ref (d := 2) o_t0 e11 rfl
  obtain ⟨q12, e13, h⟩ := gf_nn_ok h
  refine gw_getr (k := 0) (ty := 10) (ref := R_Works) C hW o_q10 (by decide) rfl gi_Works rfl (by decide) rfl rfl gk_716 gd_Desk_inner_19 e13 ?_
  have o_q12 := hW.ref (d := 10) o_q10 e13 rfl
  refine lv_iload_n hx hb gd_Desk_inner_22 rfl (lv_at hl 1 rfl) ?_
  obtain ⟨g14, h⟩ := gf_if_ok h
  refine gw_iald C hW o_q12 g14 gd_Desk_inner_23 ?_
  refine lv_icmp_gt (tgt := 35) hx hb gd_Desk_inner_24 (by decide) (fun c15 => ?_) (fun c15 => ?_)
  · have h := gf_t c15 h
    refine lv_aload_n hx hb gd_Desk_inner_35 rfl (lv_at hl 0 rfl) ?_
    rcases gf_ct_ok h with ⟨k19, u16, d17, rfl⟩ | ⟨a18, u16, d17, h⟩
    · have hX9 : e.platform.stackTraces = false ∧ xt_Zs (gw_A hs z s.heap.size) s s.heap ∧ 1 ≤ R.cells ∧ 6 ≤ R.slots := hX
      exact xt_prop (K := R_Desk) (As := []) (rest := []) C hW (fun _ h => Or.inr h) hX9.2.1 hl.1 hk hne gm_Desk_needRoomForRelation (gt_Desk_needRoomForRelation l hfl F o_t0 d17 _) gk_709 gk_710 gk_711 o_t0 (by decide) rfl rfl rfl ⟨(Nat.le_trans (m := 8) (Nat.le_of_ble_eq_true rfl) hR.1), (Nat.le_trans (m := 163) (Nat.le_of_ble_eq_true rfl) hR.2)⟩ hX9.2.2 rfl rfl (Nat.le_of_ble_eq_true rfl) gd_Desk_inner_36
    refine gw_callVv (K := R_Desk) (As := []) (rest := []) C hW (fun _ h => Or.inr h) hl.1 gm_Desk_needRoomForRelation (gc_Desk_needRoomForRelation l hfl F o_t0 d17 _) gk_709 gk_710 gk_711 o_t0 (by decide) rfl rfl rfl ⟨(Nat.le_trans (m := 8) (Nat.le_of_ble_eq_true rfl) hR.1), (Nat.le_trans (m := 163) (Nat.le_of_ble_eq_true rfl) hR.2)⟩ ⟨Nat.zero_le _, Nat.zero_le _⟩ rfl rfl (Nat.le_of_ble_eq_true rfl) gd_Desk_inner_36 (fun H locs hW => ?_)
    refine lv_aload_n hx hb gd_Desk_inner_39 rfl (lv_at hl 0 rfl) ?_
    obtain ⟨q20, e21, h⟩ := gf_nn_ok h
    refine gw_getr (k := 1) (ty := 2) (ref := R_Desk) C hW o_t0 (by decide) rfl gi_Desk rfl (by decide) rfl rfl gk_352 gd_Desk_inner_40 e21 ?_
    have o_q20 := hW.ref (d := 2) o_t0 e21 rfl
    refine lv_iconst (v := 1) hx hb gd_Desk_inner_43 (by decide) ?_
    refine lv_iload_n hx hb gd_Desk_inner_44 rfl (lv_at hl 1 rfl) ?_
    refine lv_iload_n hx hb gd_Desk_inner_45 rfl (lv_at hl 2 rfl) ?_
    refine lv_iconst (v := (-1)) hx hb gd_Desk_inner_46 (by decide) ?_
    obtain ⟨a24, u22, d23, h⟩ := gf_cl_ok h
    refine gw_callVi (K := R_Works) (As := [.int (1 : Int32), .int x1, .int x2, .int (-1 : Int32)]) (rest := []) C hW (fun _ h => Or.inr h) hl.1 gm_Works_addRelation (gc_Works_addRelation l F o_q20 d23 _) gk_712 gk_713 gk_714 o_q20 (by decide) rfl rfl rfl ⟨(Nat.le_trans (m := 8) (Nat.le_of_ble_eq_true rfl) hR.1), (Nat.le_trans (m := 163) (Nat.le_of_ble_eq_true rfl) hR.2)⟩ ⟨Nat.zero_le _, Nat.zero_le _⟩ rfl rfl (Nat.le_of_ble_eq_true rfl) gd_Desk_inner_47 (fun H locs hW => ?_)
    obtain rfl := Option.some.inj h
    exact gw_iret C hW hr hk gd_Desk_inner_50
  · have h := gf_f c15 h
    obtain rfl := Option.some.inj h
    have hX9 : e.platform.stackTraces = false ∧ xt_Zs (gw_A hs z s.heap.size) s s.heap ∧ 1 ≤ R.cells ∧ 6 ≤ R.slots := hX
    exact xt_throw (k := 1) C hW (fun _ h => Or.inr h) hX9.2.1 hX9.1 hl.1 hk (xt_out hne _) (by decide +kernel) xa_1 gk_659 gk_660 gk_661 gd_Desk_inner_27 gd_Desk_inner_30 gd_Desk_inner_31 gd_Desk_inner_34 (Nat.le_trans (m := 8) (Nat.le_of_ble_eq_true rfl) hR.1) (Nat.le_trans (m := 163) (Nat.le_of_ble_eq_true rfl) hR.2) hX9.2.2.1 hX9.2.2.2

set_option maxRecDepth 20000 in
theorem gc_Desk_inner (l : Launch) (hfl : l.flags = pinnedFlags ++ [noTraceFlag]) {D : va_G} {cA : Nat → ClassId} {hs : Nat → Nat} {z : gw_Sh} (F : Nat) {u w : gw_St} {v : Int32} {t0 : Nat} {x1 : Int32} {x2 : Int32} (o_t0 : gw_ok z t0 0) (h : gf_Desk_inner F z u t0 x1 x2 = some (.inl v, w)) (sz : Nat) : gw_Mi l gy_Desk_inner gb_Desk_inner 3 (some .int) (gw_rm 8 163) [.ref (hs t0), .int x1, .int x2] D cA hs z u sz (v, w) := by
  refine xt_enter0 (by decide) (Nat.le_of_ble_eq_true rfl) ?_
  intro p e s m below meth c ls hsz C hW hr hk hne hl
  subst hsz
  exact gx_Desk_inner_b0 (e := e) (hs := hs) (z := z) (R := gw_rm 8 163) (r0 := (.inl v, w)) F C hr hk ⟨Nat.le_refl _, Nat.le_refl _⟩ hfl hne trivial u t0 x1 x2 o_t0 hW (lv_sub hl [0, 1, 2] rfl) h
set_option maxRecDepth 20000 in
theorem gt_Desk_inner (l : Launch) (hfl : l.flags = pinnedFlags ++ [noTraceFlag]) {D : va_G} {cA : Nat → ClassId} {hs : Nat → Nat} {z : gw_Sh} (F : Nat) {u w : gw_St} {k : Nat} {t0 : Nat} {x1 : Int32} {x2 : Int32} (o_t0 : gw_ok z t0 0) (h : gf_Desk_inner F z u t0 x1 x2 = some (.inr k, w)) (sz : Nat) : gw_Mt l gy_Desk_inner gb_Desk_inner 3 (some .int) (xt_rm 8 163) [.ref (hs t0), .int x1, .int x2] D cA hs z u sz k w := by
  refine xt_enter hfl (by decide) (Nat.le_of_ble_eq_true rfl) ?_
  intro p e s m below meth c ls hsz C hW hr hk hne hZ htr hl
  exact gx_Desk_inner_b0 (e := e) (hs := hs) (z := z) (R := xt_rm 8 163) (r0 := (.inr k, w)) F C hr hk ⟨Nat.le_refl _, Nat.le_refl _⟩ hfl hne ⟨htr, hZ, Nat.le_refl _, Nat.le_refl _⟩ u t0 x1 x2 o_t0 hW (lv_sub hl [0, 1, 2] rfl) h
-- GearDesk.arbor(II)I
def gy_Desk_arbor : MethodName := ⟨R_Desk, "arbor", "(II)I"⟩
abbrev gb_Desk_arbor : ByteArray := prog_1_method_10_code
theorem gk_718 : Cond.code gy_Desk_arbor gb_Desk_arbor 3 (some .int) ∈ gt_T := gt_m4 (List.mem_of_getElem? (i := 228) rfl) rfl
theorem gm_Desk_arbor : gw_Mth gy_Desk_arbor gb_Desk_arbor 3 (some .int) 2 := ⟨gk_718, gk_361, ⟨by decide +kernel, by decide +kernel⟩, by decide +kernel⟩
theorem gd_Desk_arbor_0 : decode gb_Desk_arbor 0 = .ok (.aload_n 0, 1) := by decide +kernel
theorem gd_Desk_arbor_1 : decode gb_Desk_arbor 1 = .ok (.iload_n 1, 1) := by decide +kernel
theorem gd_Desk_arbor_2 : decode gb_Desk_arbor 2 = .ok (.iload_n 2, 1) := by decide +kernel
theorem gd_Desk_arbor_3 : decode gb_Desk_arbor 3 = .ok (.invokevirtual 135, 3) := by decide +kernel
theorem gd_Desk_arbor_6 : decode gb_Desk_arbor 6 = .ok (.aload_n 0, 1) := by decide +kernel
theorem gd_Desk_arbor_7 : decode gb_Desk_arbor 7 = .ok (.invokevirtual 139, 3) := by decide +kernel
theorem gd_Desk_arbor_10 : decode gb_Desk_arbor 10 = .ok (.aload_n 0, 1) := by decide +kernel
theorem gd_Desk_arbor_11 : decode gb_Desk_arbor 11 = .ok (.getfield 19, 3) := by decide +kernel
theorem gd_Desk_arbor_14 : decode gb_Desk_arbor 14 = .ok (.iconst 2, 1) := by decide +kernel
theorem gd_Desk_arbor_15 : decode gb_Desk_arbor 15 = .ok (.iload_n 1, 1) := by decide +kernel
theorem gd_Desk_arbor_16 : decode gb_Desk_arbor 16 = .ok (.iload_n 2, 1) := by decide +kernel
theorem gd_Desk_arbor_17 : decode gb_Desk_arbor 17 = .ok (.iconst (-1), 1) := by decide +kernel
theorem gd_Desk_arbor_18 : decode gb_Desk_arbor 18 = .ok (.invokevirtual 142, 3) := by decide +kernel
theorem gd_Desk_arbor_21 : decode gb_Desk_arbor 21 = .ok (.ireturn, 1) := by decide +kernel
def gf_Desk_arbor_b0 (F : Nat) (z : gw_Sh)  (u : gw_St) (t0 : Nat) (x1 : Int32) (x2 : Int32) : Option ((Int32 ⊕ Nat) × gw_St) :=
  gf_ct (gf_Desk_needTwoGears F z u t0 x1 x2) fun a3 u1 => gf_ct (gf_Desk_needRoomForRelation F z u1 t0) fun a7 u5 => gf_nn (u5.2.2 t0 1) fun q9 => gf_cl (gf_Works_addRelation F z u5 q9 (2 : Int32) x1 x2 (-1 : Int32)) fun a13 u11 => some (.inl a13, u11)
def gf_Desk_arbor (F : Nat) (z : gw_Sh) (u : gw_St) (t0 : Nat) (x1 : Int32) (x2 : Int32) : Option ((Int32 ⊕ Nat) × gw_St) := gf_Desk_arbor_b0 F z  u t0 x1 x2
set_option maxHeartbeats 4000000 in
set_option maxRecDepth 20000 in
theorem gx_Desk_arbor_b0 {p : Program} {l : Launch} {e : Env} {s : State} {m : MethodId} {args : Array Value} {below : List Frame} {meth : Method} {c : Code} {D : va_G} {cA : Nat → ClassId} {hs : Nat → Nat} {z : gw_Sh} (F : Nat) {r0 : ((Int32 ⊕ Nat) × gw_St)} (C : gw_Cx p s m args c gb_Desk_arbor 3 R_Desk D cA) (hr : meth.sig.returnType = (some .int)) (hk : meth.locks = false) {R : Room} (hR : 8 ≤ R.frames ∧ 163 ≤ R.locals) (hfl : l.flags = pinnedFlags ++ [noTraceFlag]) (hne : c.exceptionTable.isEmpty = true) (hX : xt_Ok e s R hs z r0) (u : gw_St) (t0 : Nat) (x1 : Int32) (x2 : Int32) (o_t0 : gw_ok z t0 0) {H : Heap} {locs : List Loc} {ls : Array Slot} (hW : gw_Wx D cA hs z s u H locs) (hl : lv_has ls 3 [(0, .ref (hs t0)), (1, .int x1), (2, .int x2)]) (h : gf_Desk_arbor_b0 F z   u t0 x1 x2 = some r0) : gw_Ti p l e R s m args below meth c D cA hs z r0 H locs ls 0 [] := by
  obtain ⟨hx, hb, hml, hown, hts, hK⟩ := id C
  unfold gf_Desk_arbor_b0 at h
  refine lv_aload_n hx hb gd_Desk_arbor_0 rfl (lv_at hl 0 rfl) ?_
  refine lv_iload_n hx hb gd_Desk_arbor_1 rfl (lv_at hl 1 rfl) ?_
  refine lv_iload_n hx hb gd_Desk_arbor_2 rfl (lv_at hl 2 rfl) ?_
  rcases gf_ct_ok h with ⟨k4, u1, d2, rfl⟩ | ⟨a3, u1, d2, h⟩
  · have hX9 : e.platform.stackTraces = false ∧ xt_Zs (gw_A hs z s.heap.size) s s.heap ∧ 1 ≤ R.cells ∧ 6 ≤ R.slots := hX
    exact xt_prop (K := R_Desk) (As := [.int x1, .int x2]) (rest := []) C hW (fun _ h => Or.inr h) hX9.2.1 hl.1 hk hne gm_Desk_needTwoGears (gt_Desk_needTwoGears l hfl F o_t0 d2 _) gk_706 gk_707 gk_708 o_t0 (by decide) rfl rfl rfl ⟨(Nat.le_trans (m := 8) (Nat.le_of_ble_eq_true rfl) hR.1), (Nat.le_trans (m := 163) (Nat.le_of_ble_eq_true rfl) hR.2)⟩ hX9.2.2 rfl rfl (Nat.le_of_ble_eq_true rfl) gd_Desk_arbor_3
  refine gw_callVv (K := R_Desk) (As := [.int x1, .int x2]) (rest := []) C hW (fun _ h => Or.inr h) hl.1 gm_Desk_needTwoGears (gc_Desk_needTwoGears l hfl F o_t0 d2 _) gk_706 gk_707 gk_708 o_t0 (by decide) rfl rfl rfl ⟨(Nat.le_trans (m := 8) (Nat.le_of_ble_eq_true rfl) hR.1), (Nat.le_trans (m := 163) (Nat.le_of_ble_eq_true rfl) hR.2)⟩ ⟨Nat.zero_le _, Nat.zero_le _⟩ rfl rfl (Nat.le_of_ble_eq_true rfl) gd_Desk_arbor_3 (fun H locs hW => ?_)
  refine lv_aload_n hx hb gd_Desk_arbor_6 rfl (lv_at hl 0 rfl) ?_
  rcases gf_ct_ok h with ⟨k8, u5, d6, rfl⟩ | ⟨a7, u5, d6, h⟩
  · have hX9 : e.platform.stackTraces = false ∧ xt_Zs (gw_A hs z s.heap.size) s s.heap ∧ 1 ≤ R.cells ∧ 6 ≤ R.slots := hX
    exact xt_prop (K := R_Desk) (As := []) (rest := []) C hW (fun _ h => Or.inr h) hX9.2.1 hl.1 hk hne gm_Desk_needRoomForRelation (gt_Desk_needRoomForRelation l hfl F o_t0 d6 _) gk_709 gk_710 gk_711 o_t0 (by decide) rfl rfl rfl ⟨(Nat.le_trans (m := 8) (Nat.le_of_ble_eq_true rfl) hR.1), (Nat.le_trans (m := 163) (Nat.le_of_ble_eq_true rfl) hR.2)⟩ hX9.2.2 rfl rfl (Nat.le_of_ble_eq_true rfl) gd_Desk_arbor_7
  refine gw_callVv (K := R_Desk) (As := []) (rest := []) C hW (fun _ h => Or.inr h) hl.1 gm_Desk_needRoomForRelation (gc_Desk_needRoomForRelation l hfl F o_t0 d6 _) gk_709 gk_710 gk_711 o_t0 (by decide) rfl rfl rfl ⟨(Nat.le_trans (m := 8) (Nat.le_of_ble_eq_true rfl) hR.1), (Nat.le_trans (m := 163) (Nat.le_of_ble_eq_true rfl) hR.2)⟩ ⟨Nat.zero_le _, Nat.zero_le _⟩ rfl rfl (Nat.le_of_ble_eq_true rfl) gd_Desk_arbor_7 (fun H locs hW => ?_)
  refine lv_aload_n hx hb gd_Desk_arbor_10 rfl (lv_at hl 0 rfl) ?_
  obtain ⟨q9, e10, h⟩ := gf_nn_ok h
  refine gw_getr (k := 1) (ty := 2) (ref := R_Desk) C hW o_t0 (by decide) rfl gi_Desk rfl (by decide) rfl rfl gk_352 gd_Desk_arbor_11 e10 ?_
  have o_q9 := hW.ref (d := 2) o_t0 e10 rfl
  refine lv_iconst (v := 2) hx hb gd_Desk_arbor_14 (by decide) ?_
  refine lv_iload_n hx hb gd_Desk_arbor_15 rfl (lv_at hl 1 rfl) ?_
  refine lv_iload_n hx hb gd_Desk_arbor_16 rfl (lv_at hl 2 rfl) ?_
  refine lv_iconst (v := (-1)) hx hb gd_Desk_arbor_17 (by decide) ?_
  obtain ⟨a13, u11, d12, h⟩ := gf_cl_ok h
  refine gw_callVi (K := R_Works) (As := [.int (2 : Int32), .int x1, .int x2, .int (-1 : Int32)]) (rest := []) C hW (fun _ h => Or.inr h) hl.1 gm_Works_addRelation (gc_Works_addRelation l F o_q9 d12 _) gk_712 gk_713 gk_714 o_q9 (by decide) rfl rfl rfl ⟨(Nat.le_trans (m := 8) (Nat.le_of_ble_eq_true rfl) hR.1), (Nat.le_trans (m := 163) (Nat.le_of_ble_eq_true rfl) hR.2)⟩ ⟨Nat.zero_le _, Nat.zero_le _⟩ rfl rfl (Nat.le_of_ble_eq_true rfl) gd_Desk_arbor_18 (fun H locs hW => ?_)
  obtain rfl := Option.some.inj h
  exact gw_iret C hW hr hk gd_Desk_arbor_21

set_option maxRecDepth 20000 in
theorem gc_Desk_arbor (l : Launch) (hfl : l.flags = pinnedFlags ++ [noTraceFlag]) {D : va_G} {cA : Nat → ClassId} {hs : Nat → Nat} {z : gw_Sh} (F : Nat) {u w : gw_St} {v : Int32} {t0 : Nat} {x1 : Int32} {x2 : Int32} (o_t0 : gw_ok z t0 0) (h : gf_Desk_arbor F z u t0 x1 x2 = some (.inl v, w)) (sz : Nat) : gw_Mi l gy_Desk_arbor gb_Desk_arbor 3 (some .int) (gw_rm 8 163) [.ref (hs t0), .int x1, .int x2] D cA hs z u sz (v, w) := by
  refine xt_enter0 (by decide) (Nat.le_of_ble_eq_true rfl) ?_
  intro p e s m below meth c ls hsz C hW hr hk hne hl
  subst hsz
  exact gx_Desk_arbor_b0 (e := e) (hs := hs) (z := z) (R := gw_rm 8 163) (r0 := (.inl v, w)) F C hr hk ⟨Nat.le_refl _, Nat.le_refl _⟩ hfl hne trivial u t0 x1 x2 o_t0 hW (lv_sub hl [0, 1, 2] rfl) h
set_option maxRecDepth 20000 in
theorem gt_Desk_arbor (l : Launch) (hfl : l.flags = pinnedFlags ++ [noTraceFlag]) {D : va_G} {cA : Nat → ClassId} {hs : Nat → Nat} {z : gw_Sh} (F : Nat) {u w : gw_St} {k : Nat} {t0 : Nat} {x1 : Int32} {x2 : Int32} (o_t0 : gw_ok z t0 0) (h : gf_Desk_arbor F z u t0 x1 x2 = some (.inr k, w)) (sz : Nat) : gw_Mt l gy_Desk_arbor gb_Desk_arbor 3 (some .int) (xt_rm 8 163) [.ref (hs t0), .int x1, .int x2] D cA hs z u sz k w := by
  refine xt_enter hfl (by decide) (Nat.le_of_ble_eq_true rfl) ?_
  intro p e s m below meth c ls hsz C hW hr hk hne hZ htr hl
  exact gx_Desk_arbor_b0 (e := e) (hs := hs) (z := z) (R := xt_rm 8 163) (r0 := (.inr k, w)) F C hr hk ⟨Nat.le_refl _, Nat.le_refl _⟩ hfl hne ⟨htr, hZ, Nat.le_refl _, Nat.le_refl _⟩ u t0 x1 x2 o_t0 hW (lv_sub hl [0, 1, 2] rfl) h
-- GearDesk.planet(III)I
def gy_Desk_planet : MethodName := ⟨R_Desk, "planet", "(III)I"⟩
abbrev gb_Desk_planet : ByteArray := prog_1_method_11_code
theorem gk_719 : Cond.code gy_Desk_planet gb_Desk_planet 4 (some .int) ∈ gt_T := gt_m4 (List.mem_of_getElem? (i := 235) rfl) rfl
theorem gm_Desk_planet : gw_Mth gy_Desk_planet gb_Desk_planet 4 (some .int) 3 := ⟨gk_719, gk_361, ⟨by decide +kernel, by decide +kernel⟩, by decide +kernel⟩
theorem gd_Desk_planet_0 : decode gb_Desk_planet 0 = .ok (.aload_n 0, 1) := by decide +kernel
theorem gd_Desk_planet_1 : decode gb_Desk_planet 1 = .ok (.iload_n 1, 1) := by decide +kernel
theorem gd_Desk_planet_2 : decode gb_Desk_planet 2 = .ok (.invokevirtual 149, 3) := by decide +kernel
theorem gd_Desk_planet_5 : decode gb_Desk_planet 5 = .ok (.aload_n 0, 1) := by decide +kernel
theorem gd_Desk_planet_6 : decode gb_Desk_planet 6 = .ok (.iload_n 2, 1) := by decide +kernel
theorem gd_Desk_planet_7 : decode gb_Desk_planet 7 = .ok (.invokevirtual 149, 3) := by decide +kernel
theorem gd_Desk_planet_10 : decode gb_Desk_planet 10 = .ok (.aload_n 0, 1) := by decide +kernel
theorem gd_Desk_planet_11 : decode gb_Desk_planet 11 = .ok (.iload_n 3, 1) := by decide +kernel
theorem gd_Desk_planet_12 : decode gb_Desk_planet 12 = .ok (.invokevirtual 149, 3) := by decide +kernel
theorem gd_Desk_planet_15 : decode gb_Desk_planet 15 = .ok (.iload_n 1, 1) := by decide +kernel
theorem gd_Desk_planet_16 : decode gb_Desk_planet 16 = .ok (.iload_n 2, 1) := by decide +kernel
theorem gd_Desk_planet_17 : decode gb_Desk_planet 17 = .ok (.if_icmp .eq 13, 3) := by decide +kernel
theorem gd_Desk_planet_20 : decode gb_Desk_planet 20 = .ok (.iload_n 1, 1) := by decide +kernel
theorem gd_Desk_planet_21 : decode gb_Desk_planet 21 = .ok (.iload_n 3, 1) := by decide +kernel
theorem gd_Desk_planet_22 : decode gb_Desk_planet 22 = .ok (.if_icmp .eq 8, 3) := by decide +kernel
theorem gd_Desk_planet_25 : decode gb_Desk_planet 25 = .ok (.iload_n 2, 1) := by decide +kernel
theorem gd_Desk_planet_26 : decode gb_Desk_planet 26 = .ok (.iload_n 3, 1) := by decide +kernel
theorem gd_Desk_planet_27 : decode gb_Desk_planet 27 = .ok (.if_icmp .ne 11, 3) := by decide +kernel
theorem gd_Desk_planet_30 : decode gb_Desk_planet 30 = .ok (.new 88, 3) := by decide +kernel
theorem gd_Desk_planet_33 : decode gb_Desk_planet 33 = .ok (.dup, 1) := by decide +kernel
theorem gd_Desk_planet_34 : decode gb_Desk_planet 34 = .ok (.invokespecial 90, 3) := by decide +kernel
theorem gd_Desk_planet_37 : decode gb_Desk_planet 37 = .ok (.athrow, 1) := by decide +kernel
theorem gd_Desk_planet_38 : decode gb_Desk_planet 38 = .ok (.aload_n 0, 1) := by decide +kernel
theorem gd_Desk_planet_39 : decode gb_Desk_planet 39 = .ok (.invokevirtual 139, 3) := by decide +kernel
theorem gd_Desk_planet_42 : decode gb_Desk_planet 42 = .ok (.aload_n 0, 1) := by decide +kernel
theorem gd_Desk_planet_43 : decode gb_Desk_planet 43 = .ok (.getfield 19, 3) := by decide +kernel
theorem gd_Desk_planet_46 : decode gb_Desk_planet 46 = .ok (.iconst 3, 1) := by decide +kernel
theorem gd_Desk_planet_47 : decode gb_Desk_planet 47 = .ok (.iload_n 1, 1) := by decide +kernel
theorem gd_Desk_planet_48 : decode gb_Desk_planet 48 = .ok (.iload_n 2, 1) := by decide +kernel
theorem gd_Desk_planet_49 : decode gb_Desk_planet 49 = .ok (.iload_n 3, 1) := by decide +kernel
theorem gd_Desk_planet_50 : decode gb_Desk_planet 50 = .ok (.invokevirtual 142, 3) := by decide +kernel
theorem gd_Desk_planet_53 : decode gb_Desk_planet 53 = .ok (.ireturn, 1) := by decide +kernel
def gf_Desk_planet_b30 (F : Nat) (z : gw_Sh)  (u : gw_St)  : Option ((Int32 ⊕ Nat) × gw_St) :=
  some (.inr 1, u)
def gf_Desk_planet_b0 (F : Nat) (z : gw_Sh)  (u : gw_St) (t0 : Nat) (x1 : Int32) (x2 : Int32) (x3 : Int32) : Option ((Int32 ⊕ Nat) × gw_St) :=
  gf_ct (gf_Desk_needGear F z u t0 x1) fun a3 u1 => gf_ct (gf_Desk_needGear F z u1 t0 x2) fun a7 u5 => gf_ct (gf_Desk_needGear F z u5 t0 x3) fun a11 u9 => if x1 = x2 then (gf_Desk_planet_b30 F z  u9 ) else (if x1 = x3 then (gf_Desk_planet_b30 F z  u9 ) else (if x2 = x3 then (gf_Desk_planet_b30 F z  u9 ) else (gf_ct (gf_Desk_needRoomForRelation F z u9 t0) fun a18 u16 => gf_nn (u16.2.2 t0 1) fun q20 => gf_cl (gf_Works_addRelation F z u16 q20 (3 : Int32) x1 x2 x3) fun a24 u22 => some (.inl a24, u22))))
def gf_Desk_planet (F : Nat) (z : gw_Sh) (u : gw_St) (t0 : Nat) (x1 : Int32) (x2 : Int32) (x3 : Int32) : Option ((Int32 ⊕ Nat) × gw_St) := gf_Desk_planet_b0 F z  u t0 x1 x2 x3
set_option maxHeartbeats 4000000 in
set_option maxRecDepth 20000 in
theorem gx_Desk_planet_b30 {p : Program} {l : Launch} {e : Env} {s : State} {m : MethodId} {args : Array Value} {below : List Frame} {meth : Method} {c : Code} {D : va_G} {cA : Nat → ClassId} {hs : Nat → Nat} {z : gw_Sh} (F : Nat) {r0 : ((Int32 ⊕ Nat) × gw_St)} (C : gw_Cx p s m args c gb_Desk_planet 4 R_Desk D cA) (hr : meth.sig.returnType = (some .int)) (hk : meth.locks = false) {R : Room} (hR : 7 ≤ R.frames ∧ 141 ≤ R.locals) (hfl : l.flags = pinnedFlags ++ [noTraceFlag]) (hne : c.exceptionTable.isEmpty = true) (hX : xt_Ok e s R hs z r0) (u : gw_St)   {H : Heap} {locs : List Loc} {ls : Array Slot} (hW : gw_Wx D cA hs z s u H locs) (hl : lv_has ls 4 []) (h : gf_Desk_planet_b30 F z   u  = some r0) : gw_Ti p l e R s m args below meth c D cA hs z r0 H locs ls 30 [] := by
  obtain ⟨hx, hb, hml, hown, hts, hK⟩ := id C
  unfold gf_Desk_planet_b30 at h
  obtain rfl := Option.some.inj h
  have hX9 : e.platform.stackTraces = false ∧ xt_Zs (gw_A hs z s.heap.size) s s.heap ∧ 1 ≤ R.cells ∧ 6 ≤ R.slots := hX
  exact xt_throw (k := 1) C hW (fun _ h => Or.inr h) hX9.2.1 hX9.1 hl.1 hk (xt_out hne _) (by decide +kernel) xa_1 gk_659 gk_660 gk_661 gd_Desk_planet_30 gd_Desk_planet_33 gd_Desk_planet_34 gd_Desk_planet_37 (Nat.le_trans (m := 7) (Nat.le_of_ble_eq_true rfl) hR.1) (Nat.le_trans (m := 141) (Nat.le_of_ble_eq_true rfl) hR.2) hX9.2.2.1 hX9.2.2.2

set_option maxHeartbeats 4000000 in
set_option maxRecDepth 20000 in
theorem gx_Desk_planet_b0 {p : Program} {l : Launch} {e : Env} {s : State} {m : MethodId} {args : Array Value} {below : List Frame} {meth : Method} {c : Code} {D : va_G} {cA : Nat → ClassId} {hs : Nat → Nat} {z : gw_Sh} (F : Nat) {r0 : ((Int32 ⊕ Nat) × gw_St)} (C : gw_Cx p s m args c gb_Desk_planet 4 R_Desk D cA) (hr : meth.sig.returnType = (some .int)) (hk : meth.locks = false) {R : Room} (hR : 7 ≤ R.frames ∧ 141 ≤ R.locals) (hfl : l.flags = pinnedFlags ++ [noTraceFlag]) (hne : c.exceptionTable.isEmpty = true) (hX : xt_Ok e s R hs z r0) (u : gw_St) (t0 : Nat) (x1 : Int32) (x2 : Int32) (x3 : Int32) (o_t0 : gw_ok z t0 0) {H : Heap} {locs : List Loc} {ls : Array Slot} (hW : gw_Wx D cA hs z s u H locs) (hl : lv_has ls 4 [(0, .ref (hs t0)), (1, .int x1), (2, .int x2), (3, .int x3)]) (h : gf_Desk_planet_b0 F z   u t0 x1 x2 x3 = some r0) : gw_Ti p l e R s m args below meth c D cA hs z r0 H locs ls 0 [] := by
  obtain ⟨hx, hb, hml, hown, hts, hK⟩ := id C
  unfold gf_Desk_planet_b0 at h
  refine lv_aload_n hx hb gd_Desk_planet_0 rfl (lv_at hl 0 rfl) ?_
  refine lv_iload_n hx hb gd_Desk_planet_1 rfl (lv_at hl 1 rfl) ?_
  rcases gf_ct_ok h with ⟨k4, u1, d2, rfl⟩ | ⟨a3, u1, d2, h⟩
  · have hX9 : e.platform.stackTraces = false ∧ xt_Zs (gw_A hs z s.heap.size) s s.heap ∧ 1 ≤ R.cells ∧ 6 ≤ R.slots := hX
    exact xt_prop (K := R_Desk) (As := [.int x1]) (rest := []) C hW (fun _ h => Or.inr h) hX9.2.1 hl.1 hk hne gm_Desk_needGear (gt_Desk_needGear l hfl F o_t0 d2 _) gk_701 gk_702 gk_703 o_t0 (by decide) rfl rfl rfl ⟨(Nat.le_trans (m := 7) (Nat.le_of_ble_eq_true rfl) hR.1), (Nat.le_trans (m := 141) (Nat.le_of_ble_eq_true rfl) hR.2)⟩ hX9.2.2 rfl rfl (Nat.le_of_ble_eq_true rfl) gd_Desk_planet_2
  refine gw_callVv (K := R_Desk) (As := [.int x1]) (rest := []) C hW (fun _ h => Or.inr h) hl.1 gm_Desk_needGear (gc_Desk_needGear l hfl F o_t0 d2 _) gk_701 gk_702 gk_703 o_t0 (by decide) rfl rfl rfl ⟨(Nat.le_trans (m := 7) (Nat.le_of_ble_eq_true rfl) hR.1), (Nat.le_trans (m := 141) (Nat.le_of_ble_eq_true rfl) hR.2)⟩ ⟨Nat.zero_le _, Nat.zero_le _⟩ rfl rfl (Nat.le_of_ble_eq_true rfl) gd_Desk_planet_2 (fun H locs hW => ?_)
  refine lv_aload_n hx hb gd_Desk_planet_5 rfl (lv_at hl 0 rfl) ?_
  refine lv_iload_n hx hb gd_Desk_planet_6 rfl (lv_at hl 2 rfl) ?_
  rcases gf_ct_ok h with ⟨k8, u5, d6, rfl⟩ | ⟨a7, u5, d6, h⟩
  · have hX9 : e.platform.stackTraces = false ∧ xt_Zs (gw_A hs z s.heap.size) s s.heap ∧ 1 ≤ R.cells ∧ 6 ≤ R.slots := hX
    exact xt_prop (K := R_Desk) (As := [.int x2]) (rest := []) C hW (fun _ h => Or.inr h) hX9.2.1 hl.1 hk hne gm_Desk_needGear (gt_Desk_needGear l hfl F o_t0 d6 _) gk_701 gk_702 gk_703 o_t0 (by decide) rfl rfl rfl ⟨(Nat.le_trans (m := 7) (Nat.le_of_ble_eq_true rfl) hR.1), (Nat.le_trans (m := 141) (Nat.le_of_ble_eq_true rfl) hR.2)⟩ hX9.2.2 rfl rfl (Nat.le_of_ble_eq_true rfl) gd_Desk_planet_7
  refine gw_callVv (K := R_Desk) (As := [.int x2]) (rest := []) C hW (fun _ h => Or.inr h) hl.1 gm_Desk_needGear (gc_Desk_needGear l hfl F o_t0 d6 _) gk_701 gk_702 gk_703 o_t0 (by decide) rfl rfl rfl ⟨(Nat.le_trans (m := 7) (Nat.le_of_ble_eq_true rfl) hR.1), (Nat.le_trans (m := 141) (Nat.le_of_ble_eq_true rfl) hR.2)⟩ ⟨Nat.zero_le _, Nat.zero_le _⟩ rfl rfl (Nat.le_of_ble_eq_true rfl) gd_Desk_planet_7 (fun H locs hW => ?_)
  refine lv_aload_n hx hb gd_Desk_planet_10 rfl (lv_at hl 0 rfl) ?_
  refine lv_iload_n hx hb gd_Desk_planet_11 rfl (lv_at hl 3 rfl) ?_
  rcases gf_ct_ok h with ⟨k12, u9, d10, rfl⟩ | ⟨a11, u9, d10, h⟩
  · have hX9 : e.platform.stackTraces = false ∧ xt_Zs (gw_A hs z s.heap.size) s s.heap ∧ 1 ≤ R.cells ∧ 6 ≤ R.slots := hX
    exact xt_prop (K := R_Desk) (As := [.int x3]) (rest := []) C hW (fun _ h => Or.inr h) hX9.2.1 hl.1 hk hne gm_Desk_needGear (gt_Desk_needGear l hfl F o_t0 d10 _) gk_701 gk_702 gk_703 o_t0 (by decide) rfl rfl rfl ⟨(Nat.le_trans (m := 7) (Nat.le_of_ble_eq_true rfl) hR.1), (Nat.le_trans (m := 141) (Nat.le_of_ble_eq_true rfl) hR.2)⟩ hX9.2.2 rfl rfl (Nat.le_of_ble_eq_true rfl) gd_Desk_planet_12
  refine gw_callVv (K := R_Desk) (As := [.int x3]) (rest := []) C hW (fun _ h => Or.inr h) hl.1 gm_Desk_needGear (gc_Desk_needGear l hfl F o_t0 d10 _) gk_701 gk_702 gk_703 o_t0 (by decide) rfl rfl rfl ⟨(Nat.le_trans (m := 7) (Nat.le_of_ble_eq_true rfl) hR.1), (Nat.le_trans (m := 141) (Nat.le_of_ble_eq_true rfl) hR.2)⟩ ⟨Nat.zero_le _, Nat.zero_le _⟩ rfl rfl (Nat.le_of_ble_eq_true rfl) gd_Desk_planet_12 (fun H locs hW => ?_)
  refine lv_iload_n hx hb gd_Desk_planet_15 rfl (lv_at hl 1 rfl) ?_
  refine lv_iload_n hx hb gd_Desk_planet_16 rfl (lv_at hl 2 rfl) ?_
  refine lv_icmp_eq (tgt := 30) hx hb gd_Desk_planet_17 (by decide) (fun c13 => ?_) (fun c13 => ?_)
  · have h := gf_t c13 h
    exact gx_Desk_planet_b30 F C hr hk hR hfl hne hX  u9   hW (lv_sub hl [] rfl) h
  · have h := gf_f c13 h
    refine lv_iload_n hx hb gd_Desk_planet_20 rfl (lv_at hl 1 rfl) ?_
    refine lv_iload_n hx hb gd_Desk_planet_21 rfl (lv_at hl 3 rfl) ?_
    refine lv_icmp_eq (tgt := 30) hx hb gd_Desk_planet_22 (by decide) (fun c14 => ?_) (fun c14 => ?_)
    · have h := gf_t c14 h
      exact gx_Desk_planet_b30 F C hr hk hR hfl hne hX  u9   hW (lv_sub hl [] rfl) h
    · have h := gf_f c14 h
      refine lv_iload_n hx hb gd_Desk_planet_25 rfl (lv_at hl 2 rfl) ?_
      refine lv_iload_n hx hb gd_Desk_planet_26 rfl (lv_at hl 3 rfl) ?_
      refine lv_icmp_ne (tgt := 38) hx hb gd_Desk_planet_27 (by decide) (fun c15 => ?_) (fun c15 => ?_)
      · have h := gf_f c15 h
        refine lv_aload_n hx hb gd_Desk_planet_38 rfl (lv_at hl 0 rfl) ?_
        rcases gf_ct_ok h with ⟨k19, u16, d17, rfl⟩ | ⟨a18, u16, d17, h⟩
        · have hX9 : e.platform.stackTraces = false ∧ xt_Zs (gw_A hs z s.heap.size) s s.heap ∧ 1 ≤ R.cells ∧ 6 ≤ R.slots := hX
          exact xt_prop (K := R_Desk) (As := []) (rest := []) C hW (fun _ h => Or.inr h) hX9.2.1 hl.1 hk hne gm_Desk_needRoomForRelation (gt_Desk_needRoomForRelation l hfl F o_t0 d17 _) gk_709 gk_710 gk_711 o_t0 (by decide) rfl rfl rfl ⟨(Nat.le_trans (m := 7) (Nat.le_of_ble_eq_true rfl) hR.1), (Nat.le_trans (m := 141) (Nat.le_of_ble_eq_true rfl) hR.2)⟩ hX9.2.2 rfl rfl (Nat.le_of_ble_eq_true rfl) gd_Desk_planet_39
        refine gw_callVv (K := R_Desk) (As := []) (rest := []) C hW (fun _ h => Or.inr h) hl.1 gm_Desk_needRoomForRelation (gc_Desk_needRoomForRelation l hfl F o_t0 d17 _) gk_709 gk_710 gk_711 o_t0 (by decide) rfl rfl rfl ⟨(Nat.le_trans (m := 7) (Nat.le_of_ble_eq_true rfl) hR.1), (Nat.le_trans (m := 141) (Nat.le_of_ble_eq_true rfl) hR.2)⟩ ⟨Nat.zero_le _, Nat.zero_le _⟩ rfl rfl (Nat.le_of_ble_eq_true rfl) gd_Desk_planet_39 (fun H locs hW => ?_)
        refine lv_aload_n hx hb gd_Desk_planet_42 rfl (lv_at hl 0 rfl) ?_
        obtain ⟨q20, e21, h⟩ := gf_nn_ok h
        refine gw_getr (k := 1) (ty := 2) (ref := R_Desk) C hW o_t0 (by decide) rfl gi_Desk rfl (by decide) rfl rfl gk_352 gd_Desk_planet_43 e21 ?_
        have o_q20 := hW.ref (d := 2) o_t0 e21 rfl
        refine lv_iconst (v := 3) hx hb gd_Desk_planet_46 (by decide) ?_
        refine lv_iload_n hx hb gd_Desk_planet_47 rfl (lv_at hl 1 rfl) ?_
        refine lv_iload_n hx hb gd_Desk_planet_48 rfl (lv_at hl 2 rfl) ?_
        refine lv_iload_n hx hb gd_Desk_planet_49 rfl (lv_at hl 3 rfl) ?_
        obtain ⟨a24, u22, d23, h⟩ := gf_cl_ok h
        refine gw_callVi (K := R_Works) (As := [.int (3 : Int32), .int x1, .int x2, .int x3]) (rest := []) C hW (fun _ h => Or.inr h) hl.1 gm_Works_addRelation (gc_Works_addRelation l F o_q20 d23 _) gk_712 gk_713 gk_714 o_q20 (by decide) rfl rfl rfl ⟨(Nat.le_trans (m := 7) (Nat.le_of_ble_eq_true rfl) hR.1), (Nat.le_trans (m := 141) (Nat.le_of_ble_eq_true rfl) hR.2)⟩ ⟨Nat.zero_le _, Nat.zero_le _⟩ rfl rfl (Nat.le_of_ble_eq_true rfl) gd_Desk_planet_50 (fun H locs hW => ?_)
        obtain rfl := Option.some.inj h
        exact gw_iret C hW hr hk gd_Desk_planet_53
      · have h := gf_t c15 h
        exact gx_Desk_planet_b30 F C hr hk hR hfl hne hX  u9   hW (lv_sub hl [] rfl) h

set_option maxRecDepth 20000 in
theorem gc_Desk_planet (l : Launch) (hfl : l.flags = pinnedFlags ++ [noTraceFlag]) {D : va_G} {cA : Nat → ClassId} {hs : Nat → Nat} {z : gw_Sh} (F : Nat) {u w : gw_St} {v : Int32} {t0 : Nat} {x1 : Int32} {x2 : Int32} {x3 : Int32} (o_t0 : gw_ok z t0 0) (h : gf_Desk_planet F z u t0 x1 x2 x3 = some (.inl v, w)) (sz : Nat) : gw_Mi l gy_Desk_planet gb_Desk_planet 4 (some .int) (gw_rm 7 141) [.ref (hs t0), .int x1, .int x2, .int x3] D cA hs z u sz (v, w) := by
  refine xt_enter0 (by decide) (Nat.le_of_ble_eq_true rfl) ?_
  intro p e s m below meth c ls hsz C hW hr hk hne hl
  subst hsz
  exact gx_Desk_planet_b0 (e := e) (hs := hs) (z := z) (R := gw_rm 7 141) (r0 := (.inl v, w)) F C hr hk ⟨Nat.le_refl _, Nat.le_refl _⟩ hfl hne trivial u t0 x1 x2 x3 o_t0 hW (lv_sub hl [0, 1, 2, 3] rfl) h
set_option maxRecDepth 20000 in
theorem gt_Desk_planet (l : Launch) (hfl : l.flags = pinnedFlags ++ [noTraceFlag]) {D : va_G} {cA : Nat → ClassId} {hs : Nat → Nat} {z : gw_Sh} (F : Nat) {u w : gw_St} {k : Nat} {t0 : Nat} {x1 : Int32} {x2 : Int32} {x3 : Int32} (o_t0 : gw_ok z t0 0) (h : gf_Desk_planet F z u t0 x1 x2 x3 = some (.inr k, w)) (sz : Nat) : gw_Mt l gy_Desk_planet gb_Desk_planet 4 (some .int) (xt_rm 7 141) [.ref (hs t0), .int x1, .int x2, .int x3] D cA hs z u sz k w := by
  refine xt_enter hfl (by decide) (Nat.le_of_ble_eq_true rfl) ?_
  intro p e s m below meth c ls hsz C hW hr hk hne hZ htr hl
  exact gx_Desk_planet_b0 (e := e) (hs := hs) (z := z) (R := xt_rm 7 141) (r0 := (.inr k, w)) F C hr hk ⟨Nat.le_refl _, Nat.le_refl _⟩ hfl hne ⟨htr, hZ, Nat.le_refl _, Nat.le_refl _⟩ u t0 x1 x2 x3 o_t0 hW (lv_sub hl [0, 1, 2, 3] rfl) h
-- GearDesk.needRelation(I)V
def gy_Desk_needRelation : MethodName := ⟨R_Desk, "needRelation", "(I)V"⟩
abbrev gb_Desk_needRelation : ByteArray := prog_1_method_29_code
theorem gk_720 : Cond.code gy_Desk_needRelation gb_Desk_needRelation 2 none ∈ gt_T := gt_m5 (List.mem_of_getElem? (i := 6) rfl) rfl
theorem gm_Desk_needRelation : gw_Mth gy_Desk_needRelation gb_Desk_needRelation 2 none 1 := ⟨gk_720, gk_361, ⟨by decide +kernel, by decide +kernel⟩, by decide +kernel⟩
theorem gd_Desk_needRelation_0 : decode gb_Desk_needRelation 0 = .ok (.iload_n 1, 1) := by decide +kernel
theorem gd_Desk_needRelation_1 : decode gb_Desk_needRelation 1 = .ok (.ifCond .lt 14, 3) := by decide +kernel
theorem gd_Desk_needRelation_4 : decode gb_Desk_needRelation 4 = .ok (.iload_n 1, 1) := by decide +kernel
theorem gd_Desk_needRelation_5 : decode gb_Desk_needRelation 5 = .ok (.aload_n 0, 1) := by decide +kernel
theorem gd_Desk_needRelation_6 : decode gb_Desk_needRelation 6 = .ok (.getfield 19, 3) := by decide +kernel
theorem gd_Desk_needRelation_9 : decode gb_Desk_needRelation 9 = .ok (.getfield 158, 3) := by decide +kernel
theorem gd_Desk_needRelation_12 : decode gb_Desk_needRelation 12 = .ok (.if_icmp .lt 11, 3) := by decide +kernel
theorem gd_Desk_needRelation_15 : decode gb_Desk_needRelation 15 = .ok (.new 117, 3) := by decide +kernel
theorem gd_Desk_needRelation_18 : decode gb_Desk_needRelation 18 = .ok (.dup, 1) := by decide +kernel
theorem gd_Desk_needRelation_19 : decode gb_Desk_needRelation 19 = .ok (.invokespecial 119, 3) := by decide +kernel
theorem gd_Desk_needRelation_22 : decode gb_Desk_needRelation 22 = .ok (.athrow, 1) := by decide +kernel
theorem gd_Desk_needRelation_23 : decode gb_Desk_needRelation 23 = .ok (.return_, 1) := by decide +kernel
def gf_Desk_needRelation_b15 (F : Nat) (z : gw_Sh)  (u : gw_St)  : Option ((Unit ⊕ Nat) × gw_St) :=
  some (.inr 3, u)
def gf_Desk_needRelation_b0 (F : Nat) (z : gw_Sh)  (u : gw_St) (t0 : Nat) (x1 : Int32) : Option ((Unit ⊕ Nat) × gw_St) :=
  if x1 < 0 then (gf_Desk_needRelation_b15 F z  u ) else (gf_nn (u.2.2 t0 1) fun q2 => if x1 < (u.1 q2 3) then (some (.inl (), u)) else (gf_Desk_needRelation_b15 F z  u ))
def gf_Desk_needRelation (F : Nat) (z : gw_Sh) (u : gw_St) (t0 : Nat) (x1 : Int32) : Option ((Unit ⊕ Nat) × gw_St) := gf_Desk_needRelation_b0 F z  u t0 x1
set_option maxHeartbeats 4000000 in
set_option maxRecDepth 20000 in
theorem gx_Desk_needRelation_b15 {p : Program} {l : Launch} {e : Env} {s : State} {m : MethodId} {args : Array Value} {below : List Frame} {meth : Method} {c : Code} {D : va_G} {cA : Nat → ClassId} {hs : Nat → Nat} {z : gw_Sh} (F : Nat) {r0 : ((Unit ⊕ Nat) × gw_St)} (C : gw_Cx p s m args c gb_Desk_needRelation 2 R_Desk D cA) (hr : meth.sig.returnType = none) (hk : meth.locks = false) {R : Room} (hR : 6 ≤ R.frames ∧ 120 ≤ R.locals) (hfl : l.flags = pinnedFlags ++ [noTraceFlag]) (hne : c.exceptionTable.isEmpty = true) (hX : xt_Ok e s R hs z r0) (u : gw_St)   {H : Heap} {locs : List Loc} {ls : Array Slot} (hW : gw_Wx D cA hs z s u H locs) (hl : lv_has ls 2 []) (h : gf_Desk_needRelation_b15 F z   u  = some r0) : gw_Tv p l e R s m args below meth c D cA hs z r0 H locs ls 15 [] := by
  obtain ⟨hx, hb, hml, hown, hts, hK⟩ := id C
  unfold gf_Desk_needRelation_b15 at h
  obtain rfl := Option.some.inj h
  have hX9 : e.platform.stackTraces = false ∧ xt_Zs (gw_A hs z s.heap.size) s s.heap ∧ 1 ≤ R.cells ∧ 6 ≤ R.slots := hX
  exact xt_throw (k := 3) C hW (fun _ h => Or.inr h) hX9.2.1 hX9.1 hl.1 hk (xt_out hne _) (by decide +kernel) xa_3 gk_680 gk_681 gk_682 gd_Desk_needRelation_15 gd_Desk_needRelation_18 gd_Desk_needRelation_19 gd_Desk_needRelation_22 (Nat.le_trans (m := 6) (Nat.le_of_ble_eq_true rfl) hR.1) (Nat.le_trans (m := 120) (Nat.le_of_ble_eq_true rfl) hR.2) hX9.2.2.1 hX9.2.2.2

set_option maxHeartbeats 4000000 in
set_option maxRecDepth 20000 in
theorem gx_Desk_needRelation_b0 {p : Program} {l : Launch} {e : Env} {s : State} {m : MethodId} {args : Array Value} {below : List Frame} {meth : Method} {c : Code} {D : va_G} {cA : Nat → ClassId} {hs : Nat → Nat} {z : gw_Sh} (F : Nat) {r0 : ((Unit ⊕ Nat) × gw_St)} (C : gw_Cx p s m args c gb_Desk_needRelation 2 R_Desk D cA) (hr : meth.sig.returnType = none) (hk : meth.locks = false) {R : Room} (hR : 6 ≤ R.frames ∧ 120 ≤ R.locals) (hfl : l.flags = pinnedFlags ++ [noTraceFlag]) (hne : c.exceptionTable.isEmpty = true) (hX : xt_Ok e s R hs z r0) (u : gw_St) (t0 : Nat) (x1 : Int32) (o_t0 : gw_ok z t0 0) {H : Heap} {locs : List Loc} {ls : Array Slot} (hW : gw_Wx D cA hs z s u H locs) (hl : lv_has ls 2 [(0, .ref (hs t0)), (1, .int x1)]) (h : gf_Desk_needRelation_b0 F z   u t0 x1 = some r0) : gw_Tv p l e R s m args below meth c D cA hs z r0 H locs ls 0 [] := by
  obtain ⟨hx, hb, hml, hown, hts, hK⟩ := id C
  unfold gf_Desk_needRelation_b0 at h
  refine lv_iload_n hx hb gd_Desk_needRelation_0 rfl (lv_at hl 1 rfl) ?_
  refine lv_if_lt (tgt := 15) hx hb gd_Desk_needRelation_1 (by decide) (fun c1 => ?_) (fun c1 => ?_)
  · have h := gf_t c1 h
    exact gx_Desk_needRelation_b15 F C hr hk hR hfl hne hX  u   hW (lv_sub hl [] rfl) h
  · have h := gf_f c1 h
    refine lv_iload_n hx hb gd_Desk_needRelation_4 rfl (lv_at hl 1 rfl) ?_
    refine lv_aload_n hx hb gd_Desk_needRelation_5 rfl (lv_at hl 0 rfl) ?_
    obtain ⟨q2, e3, h⟩ := gf_nn_ok h
    refine gw_getr (k := 1) (ty := 2) (ref := R_Desk) C hW o_t0 (by decide) rfl gi_Desk rfl (by decide) rfl rfl gk_352 gd_Desk_needRelation_6 e3 ?_
    have o_q2 := hW.ref (d := 2) o_t0 e3 rfl
    refine gw_geti (k := 3) (ref := R_Works) C hW o_q2 (by decide) rfl gi_Works rfl (by decide) rfl rfl gk_364 gd_Desk_needRelation_9 ?_
    refine lv_icmp_lt (tgt := 23) hx hb gd_Desk_needRelation_12 (by decide) (fun c4 => ?_) (fun c4 => ?_)
    · have h := gf_t c4 h
      obtain rfl := Option.some.inj h
      exact gw_vret C hW hr hk gd_Desk_needRelation_23
    · have h := gf_f c4 h
      exact gx_Desk_needRelation_b15 F C hr hk hR hfl hne hX  u   hW (lv_sub hl [] rfl) h

set_option maxRecDepth 20000 in
theorem gc_Desk_needRelation (l : Launch) (hfl : l.flags = pinnedFlags ++ [noTraceFlag]) {D : va_G} {cA : Nat → ClassId} {hs : Nat → Nat} {z : gw_Sh} (F : Nat) {u w : gw_St}  {t0 : Nat} {x1 : Int32} (o_t0 : gw_ok z t0 0) (h : gf_Desk_needRelation F z u t0 x1 = some (.inl (), w)) (sz : Nat) : gw_Mv l gy_Desk_needRelation gb_Desk_needRelation 2 none (gw_rm 6 120) [.ref (hs t0), .int x1] D cA hs z u sz w := by
  refine xt_enter0 (by decide) (Nat.le_of_ble_eq_true rfl) ?_
  intro p e s m below meth c ls hsz C hW hr hk hne hl
  subst hsz
  exact gx_Desk_needRelation_b0 (e := e) (hs := hs) (z := z) (R := gw_rm 6 120) (r0 := (.inl (), w)) F C hr hk ⟨Nat.le_refl _, Nat.le_refl _⟩ hfl hne trivial u t0 x1 o_t0 hW (lv_sub hl [0, 1] rfl) h
set_option maxRecDepth 20000 in
theorem gt_Desk_needRelation (l : Launch) (hfl : l.flags = pinnedFlags ++ [noTraceFlag]) {D : va_G} {cA : Nat → ClassId} {hs : Nat → Nat} {z : gw_Sh} (F : Nat) {u w : gw_St} {k : Nat} {t0 : Nat} {x1 : Int32} (o_t0 : gw_ok z t0 0) (h : gf_Desk_needRelation F z u t0 x1 = some (.inr k, w)) (sz : Nat) : gw_Mt l gy_Desk_needRelation gb_Desk_needRelation 2 none (xt_rm 6 120) [.ref (hs t0), .int x1] D cA hs z u sz k w := by
  refine xt_enter hfl (by decide) (Nat.le_of_ble_eq_true rfl) ?_
  intro p e s m below meth c ls hsz C hW hr hk hne hZ htr hl
  exact gx_Desk_needRelation_b0 (e := e) (hs := hs) (z := z) (R := xt_rm 6 120) (r0 := (.inr k, w)) F C hr hk ⟨Nat.le_refl _, Nat.le_refl _⟩ hfl hne ⟨htr, hZ, Nat.le_refl _, Nat.le_refl _⟩ u t0 x1 o_t0 hW (lv_sub hl [0, 1] rfl) h
-- GearDesk.remove(I)I
theorem gk_721 : Cond.methodLink R_Desk 152 gy_Desk_needRelation ∈ gt_T := gt_m5 (List.mem_of_getElem? (i := 3) rfl) rfl
theorem gk_722 : Cond.instanceMethod gy_Desk_needRelation ∈ gt_T := gt_m5 (List.mem_of_getElem? (i := 5) rfl) rfl
theorem gk_723 : Cond.selects R_Desk gy_Desk_needRelation gy_Desk_needRelation ∈ gt_T := gt_p2 (List.mem_of_getElem? (i := 2) rfl) rfl
theorem gk_724 : Cond.methodLink R_Desk 155 gy_Works_dropRelation ∈ gt_T := gt_m5 (List.mem_of_getElem? (i := 7) rfl) rfl
theorem gk_725 : Cond.instanceMethod gy_Works_dropRelation ∈ gt_T := gt_m5 (List.mem_of_getElem? (i := 8) rfl) rfl
theorem gk_726 : Cond.selects R_Works gy_Works_dropRelation gy_Works_dropRelation ∈ gt_T := gt_m5 (List.mem_of_getElem? (i := 9) rfl) rfl
def gy_Desk_remove : MethodName := ⟨R_Desk, "remove", "(I)I"⟩
abbrev gb_Desk_remove : ByteArray := prog_1_method_12_code
theorem gk_727 : Cond.code gy_Desk_remove gb_Desk_remove 2 (some .int) ∈ gt_T := gt_m5 (List.mem_of_getElem? (i := 2) rfl) rfl
theorem gm_Desk_remove : gw_Mth gy_Desk_remove gb_Desk_remove 2 (some .int) 1 := ⟨gk_727, gk_361, ⟨by decide +kernel, by decide +kernel⟩, by decide +kernel⟩
theorem gd_Desk_remove_0 : decode gb_Desk_remove 0 = .ok (.aload_n 0, 1) := by decide +kernel
theorem gd_Desk_remove_1 : decode gb_Desk_remove 1 = .ok (.iload_n 1, 1) := by decide +kernel
theorem gd_Desk_remove_2 : decode gb_Desk_remove 2 = .ok (.invokevirtual 152, 3) := by decide +kernel
theorem gd_Desk_remove_5 : decode gb_Desk_remove 5 = .ok (.aload_n 0, 1) := by decide +kernel
theorem gd_Desk_remove_6 : decode gb_Desk_remove 6 = .ok (.getfield 19, 3) := by decide +kernel
theorem gd_Desk_remove_9 : decode gb_Desk_remove 9 = .ok (.iload_n 1, 1) := by decide +kernel
theorem gd_Desk_remove_10 : decode gb_Desk_remove 10 = .ok (.invokevirtual 155, 3) := by decide +kernel
theorem gd_Desk_remove_13 : decode gb_Desk_remove 13 = .ok (.aload_n 0, 1) := by decide +kernel
theorem gd_Desk_remove_14 : decode gb_Desk_remove 14 = .ok (.getfield 19, 3) := by decide +kernel
theorem gd_Desk_remove_17 : decode gb_Desk_remove 17 = .ok (.getfield 158, 3) := by decide +kernel
theorem gd_Desk_remove_20 : decode gb_Desk_remove 20 = .ok (.ireturn, 1) := by decide +kernel
def gf_Desk_remove_b0 (F : Nat) (z : gw_Sh)  (u : gw_St) (t0 : Nat) (x1 : Int32) : Option ((Int32 ⊕ Nat) × gw_St) :=
  gf_ct (gf_Desk_needRelation F z u t0 x1) fun a3 u1 => gf_nn (u1.2.2 t0 1) fun q5 => (gf_Works_dropRelation F z u1 q5 x1).bind fun u7 => gf_nn (u7.2.2 t0 1) fun q9 => some (.inl (u7.1 q9 3), u7)
def gf_Desk_remove (F : Nat) (z : gw_Sh) (u : gw_St) (t0 : Nat) (x1 : Int32) : Option ((Int32 ⊕ Nat) × gw_St) := gf_Desk_remove_b0 F z  u t0 x1
set_option maxHeartbeats 4000000 in
set_option maxRecDepth 20000 in
theorem gx_Desk_remove_b0 {p : Program} {l : Launch} {e : Env} {s : State} {m : MethodId} {args : Array Value} {below : List Frame} {meth : Method} {c : Code} {D : va_G} {cA : Nat → ClassId} {hs : Nat → Nat} {z : gw_Sh} (F : Nat) {r0 : ((Int32 ⊕ Nat) × gw_St)} (C : gw_Cx p s m args c gb_Desk_remove 2 R_Desk D cA) (hr : meth.sig.returnType = (some .int)) (hk : meth.locks = false) {R : Room} (hR : 7 ≤ R.frames ∧ 141 ≤ R.locals) (hfl : l.flags = pinnedFlags ++ [noTraceFlag]) (hne : c.exceptionTable.isEmpty = true) (hX : xt_Ok e s R hs z r0) (u : gw_St) (t0 : Nat) (x1 : Int32) (o_t0 : gw_ok z t0 0) {H : Heap} {locs : List Loc} {ls : Array Slot} (hW : gw_Wx D cA hs z s u H locs) (hl : lv_has ls 2 [(0, .ref (hs t0)), (1, .int x1)]) (h : gf_Desk_remove_b0 F z   u t0 x1 = some r0) : gw_Ti p l e R s m args below meth c D cA hs z r0 H locs ls 0 [] := by
  obtain ⟨hx, hb, hml, hown, hts, hK⟩ := id C
  unfold gf_Desk_remove_b0 at h
  refine lv_aload_n hx hb gd_Desk_remove_0 rfl (lv_at hl 0 rfl) ?_
  refine lv_iload_n hx hb gd_Desk_remove_1 rfl (lv_at hl 1 rfl) ?_
  rcases gf_ct_ok h with ⟨k4, u1, d2, rfl⟩ | ⟨a3, u1, d2, h⟩
  · have hX9 : e.platform.stackTraces = false ∧ xt_Zs (gw_A hs z s.heap.size) s s.heap ∧ 1 ≤ R.cells ∧ 6 ≤ R.slots := hX
    exact xt_prop (K := R_Desk) (As := [.int x1]) (rest := []) C hW (fun _ h => Or.inr h) hX9.2.1 hl.1 hk hne gm_Desk_needRelation (gt_Desk_needRelation l hfl F o_t0 d2 _) gk_721 gk_722 gk_723 o_t0 (by decide) rfl rfl rfl ⟨(Nat.le_trans (m := 7) (Nat.le_of_ble_eq_true rfl) hR.1), (Nat.le_trans (m := 141) (Nat.le_of_ble_eq_true rfl) hR.2)⟩ hX9.2.2 rfl rfl (Nat.le_of_ble_eq_true rfl) gd_Desk_remove_2
  refine gw_callVv (K := R_Desk) (As := [.int x1]) (rest := []) C hW (fun _ h => Or.inr h) hl.1 gm_Desk_needRelation (gc_Desk_needRelation l hfl F o_t0 d2 _) gk_721 gk_722 gk_723 o_t0 (by decide) rfl rfl rfl ⟨(Nat.le_trans (m := 7) (Nat.le_of_ble_eq_true rfl) hR.1), (Nat.le_trans (m := 141) (Nat.le_of_ble_eq_true rfl) hR.2)⟩ ⟨Nat.zero_le _, Nat.zero_le _⟩ rfl rfl (Nat.le_of_ble_eq_true rfl) gd_Desk_remove_2 (fun H locs hW => ?_)
  refine lv_aload_n hx hb gd_Desk_remove_5 rfl (lv_at hl 0 rfl) ?_
  obtain ⟨q5, e6, h⟩ := gf_nn_ok h
  refine gw_getr (k := 1) (ty := 2) (ref := R_Desk) C hW o_t0 (by decide) rfl gi_Desk rfl (by decide) rfl rfl gk_352 gd_Desk_remove_6 e6 ?_
  have o_q5 := hW.ref (d := 2) o_t0 e6 rfl
  refine lv_iload_n hx hb gd_Desk_remove_9 rfl (lv_at hl 1 rfl) ?_
  obtain ⟨u7, d8, h⟩ := gf_bd_ok h
  refine gw_callVv (K := R_Works) (As := [.int x1]) (rest := []) C hW (fun _ h => Or.inr h) hl.1 gm_Works_dropRelation (gc_Works_dropRelation l F o_q5 d8 _) gk_724 gk_725 gk_726 o_q5 (by decide) rfl rfl rfl ⟨(Nat.le_trans (m := 7) (Nat.le_of_ble_eq_true rfl) hR.1), (Nat.le_trans (m := 141) (Nat.le_of_ble_eq_true rfl) hR.2)⟩ ⟨Nat.zero_le _, Nat.zero_le _⟩ rfl rfl (Nat.le_of_ble_eq_true rfl) gd_Desk_remove_10 (fun H locs hW => ?_)
  refine lv_aload_n hx hb gd_Desk_remove_13 rfl (lv_at hl 0 rfl) ?_
  obtain ⟨q9, e10, h⟩ := gf_nn_ok h
  refine gw_getr (k := 1) (ty := 2) (ref := R_Desk) C hW o_t0 (by decide) rfl gi_Desk rfl (by decide) rfl rfl gk_352 gd_Desk_remove_14 e10 ?_
  have o_q9 := hW.ref (d := 2) o_t0 e10 rfl
  refine gw_geti (k := 3) (ref := R_Works) C hW o_q9 (by decide) rfl gi_Works rfl (by decide) rfl rfl gk_364 gd_Desk_remove_17 ?_
  obtain rfl := Option.some.inj h
  exact gw_iret C hW hr hk gd_Desk_remove_20

set_option maxRecDepth 20000 in
theorem gc_Desk_remove (l : Launch) (hfl : l.flags = pinnedFlags ++ [noTraceFlag]) {D : va_G} {cA : Nat → ClassId} {hs : Nat → Nat} {z : gw_Sh} (F : Nat) {u w : gw_St} {v : Int32} {t0 : Nat} {x1 : Int32} (o_t0 : gw_ok z t0 0) (h : gf_Desk_remove F z u t0 x1 = some (.inl v, w)) (sz : Nat) : gw_Mi l gy_Desk_remove gb_Desk_remove 2 (some .int) (gw_rm 7 141) [.ref (hs t0), .int x1] D cA hs z u sz (v, w) := by
  refine xt_enter0 (by decide) (Nat.le_of_ble_eq_true rfl) ?_
  intro p e s m below meth c ls hsz C hW hr hk hne hl
  subst hsz
  exact gx_Desk_remove_b0 (e := e) (hs := hs) (z := z) (R := gw_rm 7 141) (r0 := (.inl v, w)) F C hr hk ⟨Nat.le_refl _, Nat.le_refl _⟩ hfl hne trivial u t0 x1 o_t0 hW (lv_sub hl [0, 1] rfl) h
set_option maxRecDepth 20000 in
theorem gt_Desk_remove (l : Launch) (hfl : l.flags = pinnedFlags ++ [noTraceFlag]) {D : va_G} {cA : Nat → ClassId} {hs : Nat → Nat} {z : gw_Sh} (F : Nat) {u w : gw_St} {k : Nat} {t0 : Nat} {x1 : Int32} (o_t0 : gw_ok z t0 0) (h : gf_Desk_remove F z u t0 x1 = some (.inr k, w)) (sz : Nat) : gw_Mt l gy_Desk_remove gb_Desk_remove 2 (some .int) (xt_rm 7 141) [.ref (hs t0), .int x1] D cA hs z u sz k w := by
  refine xt_enter hfl (by decide) (Nat.le_of_ble_eq_true rfl) ?_
  intro p e s m below meth c ls hsz C hW hr hk hne hZ htr hl
  exact gx_Desk_remove_b0 (e := e) (hs := hs) (z := z) (R := xt_rm 7 141) (r0 := (.inr k, w)) F C hr hk ⟨Nat.le_refl _, Nat.le_refl _⟩ hfl hne ⟨htr, hZ, Nat.le_refl _, Nat.le_refl _⟩ u t0 x1 o_t0 hW (lv_sub hl [0, 1] rfl) h
-- GearDesk.relation(II)I
theorem gk_728 : Cond.methodLink R_Desk 161 gy_Works_part ∈ gt_T := gt_m5 (List.mem_of_getElem? (i := 19) rfl) rfl
def gy_Desk_relation : MethodName := ⟨R_Desk, "relation", "(II)I"⟩
abbrev gb_Desk_relation : ByteArray := prog_1_method_13_code
theorem gk_729 : Cond.code gy_Desk_relation gb_Desk_relation 3 (some .int) ∈ gt_T := gt_m5 (List.mem_of_getElem? (i := 18) rfl) rfl
theorem gm_Desk_relation : gw_Mth gy_Desk_relation gb_Desk_relation 3 (some .int) 2 := ⟨gk_729, gk_361, ⟨by decide +kernel, by decide +kernel⟩, by decide +kernel⟩
theorem gd_Desk_relation_0 : decode gb_Desk_relation 0 = .ok (.aload_n 0, 1) := by decide +kernel
theorem gd_Desk_relation_1 : decode gb_Desk_relation 1 = .ok (.iload_n 1, 1) := by decide +kernel
theorem gd_Desk_relation_2 : decode gb_Desk_relation 2 = .ok (.invokevirtual 152, 3) := by decide +kernel
theorem gd_Desk_relation_5 : decode gb_Desk_relation 5 = .ok (.iload_n 2, 1) := by decide +kernel
theorem gd_Desk_relation_6 : decode gb_Desk_relation 6 = .ok (.ifCond .lt 8, 3) := by decide +kernel
theorem gd_Desk_relation_9 : decode gb_Desk_relation 9 = .ok (.iload_n 2, 1) := by decide +kernel
theorem gd_Desk_relation_10 : decode gb_Desk_relation 10 = .ok (.iconst 4, 1) := by decide +kernel
theorem gd_Desk_relation_11 : decode gb_Desk_relation 11 = .ok (.if_icmp .lt 11, 3) := by decide +kernel
theorem gd_Desk_relation_14 : decode gb_Desk_relation 14 = .ok (.new 117, 3) := by decide +kernel
theorem gd_Desk_relation_17 : decode gb_Desk_relation 17 = .ok (.dup, 1) := by decide +kernel
theorem gd_Desk_relation_18 : decode gb_Desk_relation 18 = .ok (.invokespecial 119, 3) := by decide +kernel
theorem gd_Desk_relation_21 : decode gb_Desk_relation 21 = .ok (.athrow, 1) := by decide +kernel
theorem gd_Desk_relation_22 : decode gb_Desk_relation 22 = .ok (.aload_n 0, 1) := by decide +kernel
theorem gd_Desk_relation_23 : decode gb_Desk_relation 23 = .ok (.getfield 19, 3) := by decide +kernel
theorem gd_Desk_relation_26 : decode gb_Desk_relation 26 = .ok (.iload_n 1, 1) := by decide +kernel
theorem gd_Desk_relation_27 : decode gb_Desk_relation 27 = .ok (.iload_n 2, 1) := by decide +kernel
theorem gd_Desk_relation_28 : decode gb_Desk_relation 28 = .ok (.invokevirtual 161, 3) := by decide +kernel
theorem gd_Desk_relation_31 : decode gb_Desk_relation 31 = .ok (.ireturn, 1) := by decide +kernel
def gf_Desk_relation_b14 (F : Nat) (z : gw_Sh)  (u : gw_St)  : Option ((Int32 ⊕ Nat) × gw_St) :=
  some (.inr 3, u)
def gf_Desk_relation_b0 (F : Nat) (z : gw_Sh)  (u : gw_St) (t0 : Nat) (x1 : Int32) (x2 : Int32) : Option ((Int32 ⊕ Nat) × gw_St) :=
  gf_ct (gf_Desk_needRelation F z u t0 x1) fun a3 u1 => if x2 < 0 then (gf_Desk_relation_b14 F z  u1 ) else (if x2 < (4 : Int32) then (gf_nn (u1.2.2 t0 1) fun q7 => gf_cl (gf_Works_part F z u1 q7 x1 x2) fun a11 u9 => some (.inl a11, u9)) else (gf_Desk_relation_b14 F z  u1 ))
def gf_Desk_relation (F : Nat) (z : gw_Sh) (u : gw_St) (t0 : Nat) (x1 : Int32) (x2 : Int32) : Option ((Int32 ⊕ Nat) × gw_St) := gf_Desk_relation_b0 F z  u t0 x1 x2
set_option maxHeartbeats 4000000 in
set_option maxRecDepth 20000 in
theorem gx_Desk_relation_b14 {p : Program} {l : Launch} {e : Env} {s : State} {m : MethodId} {args : Array Value} {below : List Frame} {meth : Method} {c : Code} {D : va_G} {cA : Nat → ClassId} {hs : Nat → Nat} {z : gw_Sh} (F : Nat) {r0 : ((Int32 ⊕ Nat) × gw_St)} (C : gw_Cx p s m args c gb_Desk_relation 3 R_Desk D cA) (hr : meth.sig.returnType = (some .int)) (hk : meth.locks = false) {R : Room} (hR : 7 ≤ R.frames ∧ 141 ≤ R.locals) (hfl : l.flags = pinnedFlags ++ [noTraceFlag]) (hne : c.exceptionTable.isEmpty = true) (hX : xt_Ok e s R hs z r0) (u : gw_St)   {H : Heap} {locs : List Loc} {ls : Array Slot} (hW : gw_Wx D cA hs z s u H locs) (hl : lv_has ls 3 []) (h : gf_Desk_relation_b14 F z   u  = some r0) : gw_Ti p l e R s m args below meth c D cA hs z r0 H locs ls 14 [] := by
  obtain ⟨hx, hb, hml, hown, hts, hK⟩ := id C
  unfold gf_Desk_relation_b14 at h
  obtain rfl := Option.some.inj h
  have hX9 : e.platform.stackTraces = false ∧ xt_Zs (gw_A hs z s.heap.size) s s.heap ∧ 1 ≤ R.cells ∧ 6 ≤ R.slots := hX
  exact xt_throw (k := 3) C hW (fun _ h => Or.inr h) hX9.2.1 hX9.1 hl.1 hk (xt_out hne _) (by decide +kernel) xa_3 gk_680 gk_681 gk_682 gd_Desk_relation_14 gd_Desk_relation_17 gd_Desk_relation_18 gd_Desk_relation_21 (Nat.le_trans (m := 7) (Nat.le_of_ble_eq_true rfl) hR.1) (Nat.le_trans (m := 141) (Nat.le_of_ble_eq_true rfl) hR.2) hX9.2.2.1 hX9.2.2.2

set_option maxHeartbeats 4000000 in
set_option maxRecDepth 20000 in
theorem gx_Desk_relation_b0 {p : Program} {l : Launch} {e : Env} {s : State} {m : MethodId} {args : Array Value} {below : List Frame} {meth : Method} {c : Code} {D : va_G} {cA : Nat → ClassId} {hs : Nat → Nat} {z : gw_Sh} (F : Nat) {r0 : ((Int32 ⊕ Nat) × gw_St)} (C : gw_Cx p s m args c gb_Desk_relation 3 R_Desk D cA) (hr : meth.sig.returnType = (some .int)) (hk : meth.locks = false) {R : Room} (hR : 7 ≤ R.frames ∧ 141 ≤ R.locals) (hfl : l.flags = pinnedFlags ++ [noTraceFlag]) (hne : c.exceptionTable.isEmpty = true) (hX : xt_Ok e s R hs z r0) (u : gw_St) (t0 : Nat) (x1 : Int32) (x2 : Int32) (o_t0 : gw_ok z t0 0) {H : Heap} {locs : List Loc} {ls : Array Slot} (hW : gw_Wx D cA hs z s u H locs) (hl : lv_has ls 3 [(0, .ref (hs t0)), (1, .int x1), (2, .int x2)]) (h : gf_Desk_relation_b0 F z   u t0 x1 x2 = some r0) : gw_Ti p l e R s m args below meth c D cA hs z r0 H locs ls 0 [] := by
  obtain ⟨hx, hb, hml, hown, hts, hK⟩ := id C
  unfold gf_Desk_relation_b0 at h
  refine lv_aload_n hx hb gd_Desk_relation_0 rfl (lv_at hl 0 rfl) ?_
  refine lv_iload_n hx hb gd_Desk_relation_1 rfl (lv_at hl 1 rfl) ?_
  rcases gf_ct_ok h with ⟨k4, u1, d2, rfl⟩ | ⟨a3, u1, d2, h⟩
  · have hX9 : e.platform.stackTraces = false ∧ xt_Zs (gw_A hs z s.heap.size) s s.heap ∧ 1 ≤ R.cells ∧ 6 ≤ R.slots := hX
    exact xt_prop (K := R_Desk) (As := [.int x1]) (rest := []) C hW (fun _ h => Or.inr h) hX9.2.1 hl.1 hk hne gm_Desk_needRelation (gt_Desk_needRelation l hfl F o_t0 d2 _) gk_721 gk_722 gk_723 o_t0 (by decide) rfl rfl rfl ⟨(Nat.le_trans (m := 7) (Nat.le_of_ble_eq_true rfl) hR.1), (Nat.le_trans (m := 141) (Nat.le_of_ble_eq_true rfl) hR.2)⟩ hX9.2.2 rfl rfl (Nat.le_of_ble_eq_true rfl) gd_Desk_relation_2
  refine gw_callVv (K := R_Desk) (As := [.int x1]) (rest := []) C hW (fun _ h => Or.inr h) hl.1 gm_Desk_needRelation (gc_Desk_needRelation l hfl F o_t0 d2 _) gk_721 gk_722 gk_723 o_t0 (by decide) rfl rfl rfl ⟨(Nat.le_trans (m := 7) (Nat.le_of_ble_eq_true rfl) hR.1), (Nat.le_trans (m := 141) (Nat.le_of_ble_eq_true rfl) hR.2)⟩ ⟨Nat.zero_le _, Nat.zero_le _⟩ rfl rfl (Nat.le_of_ble_eq_true rfl) gd_Desk_relation_2 (fun H locs hW => ?_)
  refine lv_iload_n hx hb gd_Desk_relation_5 rfl (lv_at hl 2 rfl) ?_
  refine lv_if_lt (tgt := 14) hx hb gd_Desk_relation_6 (by decide) (fun c5 => ?_) (fun c5 => ?_)
  · have h := gf_t c5 h
    exact gx_Desk_relation_b14 F C hr hk hR hfl hne hX  u1   hW (lv_sub hl [] rfl) h
  · have h := gf_f c5 h
    refine lv_iload_n hx hb gd_Desk_relation_9 rfl (lv_at hl 2 rfl) ?_
    refine lv_iconst (v := 4) hx hb gd_Desk_relation_10 (by decide) ?_
    refine lv_icmp_lt (tgt := 22) hx hb gd_Desk_relation_11 (by decide) (fun c6 => ?_) (fun c6 => ?_)
    · have h := gf_t c6 h
      refine lv_aload_n hx hb gd_Desk_relation_22 rfl (lv_at hl 0 rfl) ?_
      obtain ⟨q7, e8, h⟩ := gf_nn_ok h
      refine gw_getr (k := 1) (ty := 2) (ref := R_Desk) C hW o_t0 (by decide) rfl gi_Desk rfl (by decide) rfl rfl gk_352 gd_Desk_relation_23 e8 ?_
      have o_q7 := hW.ref (d := 2) o_t0 e8 rfl
      refine lv_iload_n hx hb gd_Desk_relation_26 rfl (lv_at hl 1 rfl) ?_
      refine lv_iload_n hx hb gd_Desk_relation_27 rfl (lv_at hl 2 rfl) ?_
      obtain ⟨a11, u9, d10, h⟩ := gf_cl_ok h
      refine gw_callVi (K := R_Works) (As := [.int x1, .int x2]) (rest := []) C hW (fun _ h => Or.inr h) hl.1 gm_Works_part (gc_Works_part l F o_q7 d10 _) gk_728 gk_119 gk_120 o_q7 (by decide) rfl rfl rfl ⟨(Nat.le_trans (m := 7) (Nat.le_of_ble_eq_true rfl) hR.1), (Nat.le_trans (m := 141) (Nat.le_of_ble_eq_true rfl) hR.2)⟩ ⟨Nat.zero_le _, Nat.zero_le _⟩ rfl rfl (Nat.le_of_ble_eq_true rfl) gd_Desk_relation_28 (fun H locs hW => ?_)
      obtain rfl := Option.some.inj h
      exact gw_iret C hW hr hk gd_Desk_relation_31
    · have h := gf_f c6 h
      exact gx_Desk_relation_b14 F C hr hk hR hfl hne hX  u1   hW (lv_sub hl [] rfl) h

set_option maxRecDepth 20000 in
theorem gc_Desk_relation (l : Launch) (hfl : l.flags = pinnedFlags ++ [noTraceFlag]) {D : va_G} {cA : Nat → ClassId} {hs : Nat → Nat} {z : gw_Sh} (F : Nat) {u w : gw_St} {v : Int32} {t0 : Nat} {x1 : Int32} {x2 : Int32} (o_t0 : gw_ok z t0 0) (h : gf_Desk_relation F z u t0 x1 x2 = some (.inl v, w)) (sz : Nat) : gw_Mi l gy_Desk_relation gb_Desk_relation 3 (some .int) (gw_rm 7 141) [.ref (hs t0), .int x1, .int x2] D cA hs z u sz (v, w) := by
  refine xt_enter0 (by decide) (Nat.le_of_ble_eq_true rfl) ?_
  intro p e s m below meth c ls hsz C hW hr hk hne hl
  subst hsz
  exact gx_Desk_relation_b0 (e := e) (hs := hs) (z := z) (R := gw_rm 7 141) (r0 := (.inl v, w)) F C hr hk ⟨Nat.le_refl _, Nat.le_refl _⟩ hfl hne trivial u t0 x1 x2 o_t0 hW (lv_sub hl [0, 1, 2] rfl) h
set_option maxRecDepth 20000 in
theorem gt_Desk_relation (l : Launch) (hfl : l.flags = pinnedFlags ++ [noTraceFlag]) {D : va_G} {cA : Nat → ClassId} {hs : Nat → Nat} {z : gw_Sh} (F : Nat) {u w : gw_St} {k : Nat} {t0 : Nat} {x1 : Int32} {x2 : Int32} (o_t0 : gw_ok z t0 0) (h : gf_Desk_relation F z u t0 x1 x2 = some (.inr k, w)) (sz : Nat) : gw_Mt l gy_Desk_relation gb_Desk_relation 3 (some .int) (xt_rm 7 141) [.ref (hs t0), .int x1, .int x2] D cA hs z u sz k w := by
  refine xt_enter hfl (by decide) (Nat.le_of_ble_eq_true rfl) ?_
  intro p e s m below meth c ls hsz C hW hr hk hne hZ htr hl
  exact gx_Desk_relation_b0 (e := e) (hs := hs) (z := z) (R := xt_rm 7 141) (r0 := (.inr k, w)) F C hr hk ⟨Nat.le_refl _, Nat.le_refl _⟩ hfl hne ⟨htr, hZ, Nat.le_refl _, Nat.le_refl _⟩ u t0 x1 x2 o_t0 hW (lv_sub hl [0, 1, 2] rfl) h
-- GearDesk.crank(I)I
theorem gk_730 : Cond.fieldLink R_Desk 164 R_Works "crank" "I" ∈ gt_T := gt_m1 (List.mem_of_getElem? (i := 119) rfl) rfl
def gy_Desk_crank : MethodName := ⟨R_Desk, "crank", "(I)I"⟩
abbrev gb_Desk_crank : ByteArray := prog_1_method_14_code
theorem gk_731 : Cond.code gy_Desk_crank gb_Desk_crank 3 (some .int) ∈ gt_T := gt_m5 (List.mem_of_getElem? (i := 29) rfl) rfl
theorem gm_Desk_crank : gw_Mth gy_Desk_crank gb_Desk_crank 3 (some .int) 1 := ⟨gk_731, gk_361, ⟨by decide +kernel, by decide +kernel⟩, by decide +kernel⟩
theorem gd_Desk_crank_0 : decode gb_Desk_crank 0 = .ok (.aload_n 0, 1) := by decide +kernel
theorem gd_Desk_crank_1 : decode gb_Desk_crank 1 = .ok (.iload_n 1, 1) := by decide +kernel
theorem gd_Desk_crank_2 : decode gb_Desk_crank 2 = .ok (.invokevirtual 149, 3) := by decide +kernel
theorem gd_Desk_crank_5 : decode gb_Desk_crank 5 = .ok (.aload_n 0, 1) := by decide +kernel
theorem gd_Desk_crank_6 : decode gb_Desk_crank 6 = .ok (.getfield 19, 3) := by decide +kernel
theorem gd_Desk_crank_9 : decode gb_Desk_crank 9 = .ok (.getfield 164, 3) := by decide +kernel
theorem gd_Desk_crank_12 : decode gb_Desk_crank 12 = .ok (.istore_n 2, 1) := by decide +kernel
theorem gd_Desk_crank_13 : decode gb_Desk_crank 13 = .ok (.aload_n 0, 1) := by decide +kernel
theorem gd_Desk_crank_14 : decode gb_Desk_crank 14 = .ok (.getfield 19, 3) := by decide +kernel
theorem gd_Desk_crank_17 : decode gb_Desk_crank 17 = .ok (.iload_n 1, 1) := by decide +kernel
theorem gd_Desk_crank_18 : decode gb_Desk_crank 18 = .ok (.putfield 164, 3) := by decide +kernel
theorem gd_Desk_crank_21 : decode gb_Desk_crank 21 = .ok (.iload_n 2, 1) := by decide +kernel
theorem gd_Desk_crank_22 : decode gb_Desk_crank 22 = .ok (.ireturn, 1) := by decide +kernel
def gf_Desk_crank_b0 (F : Nat) (z : gw_Sh)  (u : gw_St) (t0 : Nat) (x1 : Int32) : Option ((Int32 ⊕ Nat) × gw_St) :=
  gf_ct (gf_Desk_needGear F z u t0 x1) fun a3 u1 => gf_nn (u1.2.2 t0 1) fun q5 => gf_nm (u1.1 q5 4) fun a7 => gf_nn (u1.2.2 t0 1) fun q9 => gf_nm (gw_wi u1 q9 4 x1) fun u11 => some (.inl a7, u11)
def gf_Desk_crank (F : Nat) (z : gw_Sh) (u : gw_St) (t0 : Nat) (x1 : Int32) : Option ((Int32 ⊕ Nat) × gw_St) := gf_Desk_crank_b0 F z  u t0 x1
set_option maxHeartbeats 4000000 in
set_option maxRecDepth 20000 in
theorem gx_Desk_crank_b0 {p : Program} {l : Launch} {e : Env} {s : State} {m : MethodId} {args : Array Value} {below : List Frame} {meth : Method} {c : Code} {D : va_G} {cA : Nat → ClassId} {hs : Nat → Nat} {z : gw_Sh} (F : Nat) {r0 : ((Int32 ⊕ Nat) × gw_St)} (C : gw_Cx p s m args c gb_Desk_crank 3 R_Desk D cA) (hr : meth.sig.returnType = (some .int)) (hk : meth.locks = false) {R : Room} (hR : 7 ≤ R.frames ∧ 141 ≤ R.locals) (hfl : l.flags = pinnedFlags ++ [noTraceFlag]) (hne : c.exceptionTable.isEmpty = true) (hX : xt_Ok e s R hs z r0) (u : gw_St) (t0 : Nat) (x1 : Int32) (o_t0 : gw_ok z t0 0) {H : Heap} {locs : List Loc} {ls : Array Slot} (hW : gw_Wx D cA hs z s u H locs) (hl : lv_has ls 3 [(0, .ref (hs t0)), (1, .int x1)]) (h : gf_Desk_crank_b0 F z   u t0 x1 = some r0) : gw_Ti p l e R s m args below meth c D cA hs z r0 H locs ls 0 [] := by
  obtain ⟨hx, hb, hml, hown, hts, hK⟩ := id C
  unfold gf_Desk_crank_b0 at h
  refine lv_aload_n hx hb gd_Desk_crank_0 rfl (lv_at hl 0 rfl) ?_
  refine lv_iload_n hx hb gd_Desk_crank_1 rfl (lv_at hl 1 rfl) ?_
  rcases gf_ct_ok h with ⟨k4, u1, d2, rfl⟩ | ⟨a3, u1, d2, h⟩
  · have hX9 : e.platform.stackTraces = false ∧ xt_Zs (gw_A hs z s.heap.size) s s.heap ∧ 1 ≤ R.cells ∧ 6 ≤ R.slots := hX
    exact xt_prop (K := R_Desk) (As := [.int x1]) (rest := []) C hW (fun _ h => Or.inr h) hX9.2.1 hl.1 hk hne gm_Desk_needGear (gt_Desk_needGear l hfl F o_t0 d2 _) gk_701 gk_702 gk_703 o_t0 (by decide) rfl rfl rfl ⟨(Nat.le_trans (m := 7) (Nat.le_of_ble_eq_true rfl) hR.1), (Nat.le_trans (m := 141) (Nat.le_of_ble_eq_true rfl) hR.2)⟩ hX9.2.2 rfl rfl (Nat.le_of_ble_eq_true rfl) gd_Desk_crank_2
  refine gw_callVv (K := R_Desk) (As := [.int x1]) (rest := []) C hW (fun _ h => Or.inr h) hl.1 gm_Desk_needGear (gc_Desk_needGear l hfl F o_t0 d2 _) gk_701 gk_702 gk_703 o_t0 (by decide) rfl rfl rfl ⟨(Nat.le_trans (m := 7) (Nat.le_of_ble_eq_true rfl) hR.1), (Nat.le_trans (m := 141) (Nat.le_of_ble_eq_true rfl) hR.2)⟩ ⟨Nat.zero_le _, Nat.zero_le _⟩ rfl rfl (Nat.le_of_ble_eq_true rfl) gd_Desk_crank_2 (fun H locs hW => ?_)
  refine lv_aload_n hx hb gd_Desk_crank_5 rfl (lv_at hl 0 rfl) ?_
  obtain ⟨q5, e6, h⟩ := gf_nn_ok h
  refine gw_getr (k := 1) (ty := 2) (ref := R_Desk) C hW o_t0 (by decide) rfl gi_Desk rfl (by decide) rfl rfl gk_352 gd_Desk_crank_6 e6 ?_
  have o_q5 := hW.ref (d := 2) o_t0 e6 rfl
  refine gw_geti (k := 4) (ref := R_Works) C hW o_q5 (by decide) rfl gi_Works rfl (by decide) rfl rfl gk_730 gd_Desk_crank_9 ?_
  refine lv_topi (fun a7 e8 => ?_)
  have h := gf_nm_ok e8 h
  refine lv_istore_n (lv' := [(2, .int a7), (0, .ref (hs t0)), (1, .int x1)]) hx hb gd_Desk_crank_12 rfl hl (by decide) rfl (fun ls hl => ?_)
  refine lv_aload_n hx hb gd_Desk_crank_13 rfl (lv_at hl 1 rfl) ?_
  obtain ⟨q9, e10, h⟩ := gf_nn_ok h
  refine gw_getr (k := 1) (ty := 2) (ref := R_Desk) C hW o_t0 (by decide) rfl gi_Desk rfl (by decide) rfl rfl gk_352 gd_Desk_crank_14 e10 ?_
  have o_q9 := hW.ref (d := 2) o_t0 e10 rfl
  refine lv_iload_n hx hb gd_Desk_crank_17 rfl (lv_at hl 2 rfl) ?_
  refine gw_puti (k := 4) (ref := R_Works) (fty := .int) C hW o_q9 (by decide) rfl gi_Works rfl (by decide) rfl rfl gk_730 tf_Works tf_Works_ok nm_Works rfl rfl rfl rfl gd_Desk_crank_18 (fun u11 H locs e12 hW => ?_)
  have h := gf_nm_ok e12 h
  refine lv_iload_n hx hb gd_Desk_crank_21 rfl (lv_at hl 0 rfl) ?_
  obtain rfl := Option.some.inj h
  exact gw_iret C hW hr hk gd_Desk_crank_22

set_option maxRecDepth 20000 in
theorem gc_Desk_crank (l : Launch) (hfl : l.flags = pinnedFlags ++ [noTraceFlag]) {D : va_G} {cA : Nat → ClassId} {hs : Nat → Nat} {z : gw_Sh} (F : Nat) {u w : gw_St} {v : Int32} {t0 : Nat} {x1 : Int32} (o_t0 : gw_ok z t0 0) (h : gf_Desk_crank F z u t0 x1 = some (.inl v, w)) (sz : Nat) : gw_Mi l gy_Desk_crank gb_Desk_crank 3 (some .int) (gw_rm 7 141) [.ref (hs t0), .int x1] D cA hs z u sz (v, w) := by
  refine xt_enter0 (by decide) (Nat.le_of_ble_eq_true rfl) ?_
  intro p e s m below meth c ls hsz C hW hr hk hne hl
  subst hsz
  exact gx_Desk_crank_b0 (e := e) (hs := hs) (z := z) (R := gw_rm 7 141) (r0 := (.inl v, w)) F C hr hk ⟨Nat.le_refl _, Nat.le_refl _⟩ hfl hne trivial u t0 x1 o_t0 hW (lv_sub hl [0, 1] rfl) h
set_option maxRecDepth 20000 in
theorem gt_Desk_crank (l : Launch) (hfl : l.flags = pinnedFlags ++ [noTraceFlag]) {D : va_G} {cA : Nat → ClassId} {hs : Nat → Nat} {z : gw_Sh} (F : Nat) {u w : gw_St} {k : Nat} {t0 : Nat} {x1 : Int32} (o_t0 : gw_ok z t0 0) (h : gf_Desk_crank F z u t0 x1 = some (.inr k, w)) (sz : Nat) : gw_Mt l gy_Desk_crank gb_Desk_crank 3 (some .int) (xt_rm 7 141) [.ref (hs t0), .int x1] D cA hs z u sz k w := by
  refine xt_enter hfl (by decide) (Nat.le_of_ble_eq_true rfl) ?_
  intro p e s m below meth c ls hsz C hW hr hk hne hZ htr hl
  exact gx_Desk_crank_b0 (e := e) (hs := hs) (z := z) (R := xt_rm 7 141) (r0 := (.inr k, w)) F C hr hk ⟨Nat.le_refl _, Nat.le_refl _⟩ hfl hne ⟨htr, hZ, Nat.le_refl _, Nat.le_refl _⟩ u t0 x1 o_t0 hW (lv_sub hl [0, 1] rfl) h
-- GearDesk.solve()I
theorem gk_732 : Cond.fieldLink R_Desk 31 R_Desk "equations" "LGearDesk$Equations;" ∈ gt_T := gt_m2 (List.mem_of_getElem? (i := 97) rfl) rfl
theorem gk_733 : Cond.methodLink R_Desk 167 gy_Equations_takeAll ∈ gt_T := gt_m5 (List.mem_of_getElem? (i := 38) rfl) rfl
theorem gk_734 : Cond.instanceMethod gy_Equations_takeAll ∈ gt_T := gt_m5 (List.mem_of_getElem? (i := 39) rfl) rfl
theorem gk_735 : Cond.selects R_Equations gy_Equations_takeAll gy_Equations_takeAll ∈ gt_T := gt_m5 (List.mem_of_getElem? (i := 40) rfl) rfl
theorem gk_736 : Cond.fieldLink R_Desk 75 R_Desk "spareSpeeds" "LGearDesk$Speeds;" ∈ gt_T := gt_m2 (List.mem_of_getElem? (i := 103) rfl) rfl
theorem gk_737 : Cond.methodLink R_Desk 174 gy_Equations_readSpeeds ∈ gt_T := gt_m5 (List.mem_of_getElem? (i := 140) rfl) rfl
theorem gk_738 : Cond.instanceMethod gy_Equations_readSpeeds ∈ gt_T := gt_m5 (List.mem_of_getElem? (i := 141) rfl) rfl
theorem gk_739 : Cond.selects R_Equations gy_Equations_readSpeeds gy_Equations_readSpeeds ∈ gt_T := gt_m5 (List.mem_of_getElem? (i := 142) rfl) rfl
theorem gk_740 : Cond.classLink R_Desk 178 (xt_nm 4) ∈ gt_T := gt_m5 (List.mem_of_getElem? (i := 178) rfl) rfl
theorem gk_741 : Cond.instantiable (xt_nm 4) 6 ∈ gt_T := gt_m5 (List.mem_of_getElem? (i := 179) rfl) rfl
theorem gk_742 : Cond.initialized (xt_nm 4) ∈ gt_T := gt_m1 (List.mem_of_getElem? (i := 30) rfl) rfl
theorem gk_743 : Cond.methodLink R_Desk 171 gy_Works_lowestGear ∈ gt_T := gt_m5 (List.mem_of_getElem? (i := 134) rfl) rfl
theorem gk_744 : Cond.instanceMethod gy_Works_lowestGear ∈ gt_T := gt_m5 (List.mem_of_getElem? (i := 135) rfl) rfl
theorem gk_745 : Cond.selects R_Works gy_Works_lowestGear gy_Works_lowestGear ∈ gt_T := gt_m5 (List.mem_of_getElem? (i := 136) rfl) rfl
def gy_Desk_solve : MethodName := ⟨R_Desk, "solve", "()I"⟩
abbrev gb_Desk_solve : ByteArray := prog_1_method_15_code
theorem gk_746 : Cond.code gy_Desk_solve gb_Desk_solve 3 (some .int) ∈ gt_T := gt_m5 (List.mem_of_getElem? (i := 37) rfl) rfl
theorem gm_Desk_solve : gw_Mth gy_Desk_solve gb_Desk_solve 3 (some .int) 0 := ⟨gk_746, gk_361, ⟨by decide +kernel, by decide +kernel⟩, by decide +kernel⟩
theorem gd_Desk_solve_0 : decode gb_Desk_solve 0 = .ok (.aload_n 0, 1) := by decide +kernel
theorem gd_Desk_solve_1 : decode gb_Desk_solve 1 = .ok (.getfield 19, 3) := by decide +kernel
theorem gd_Desk_solve_4 : decode gb_Desk_solve 4 = .ok (.getfield 164, 3) := by decide +kernel
theorem gd_Desk_solve_7 : decode gb_Desk_solve 7 = .ok (.iconst (-1), 1) := by decide +kernel
theorem gd_Desk_solve_8 : decode gb_Desk_solve 8 = .ok (.if_icmp .ne 11, 3) := by decide +kernel
theorem gd_Desk_solve_11 : decode gb_Desk_solve 11 = .ok (.new 100, 3) := by decide +kernel
theorem gd_Desk_solve_14 : decode gb_Desk_solve 14 = .ok (.dup, 1) := by decide +kernel
theorem gd_Desk_solve_15 : decode gb_Desk_solve 15 = .ok (.invokespecial 102, 3) := by decide +kernel
theorem gd_Desk_solve_18 : decode gb_Desk_solve 18 = .ok (.athrow, 1) := by decide +kernel
theorem gd_Desk_solve_19 : decode gb_Desk_solve 19 = .ok (.aload_n 0, 1) := by decide +kernel
theorem gd_Desk_solve_20 : decode gb_Desk_solve 20 = .ok (.getfield 31, 3) := by decide +kernel
theorem gd_Desk_solve_23 : decode gb_Desk_solve 23 = .ok (.aload_n 0, 1) := by decide +kernel
theorem gd_Desk_solve_24 : decode gb_Desk_solve 24 = .ok (.getfield 19, 3) := by decide +kernel
theorem gd_Desk_solve_27 : decode gb_Desk_solve 27 = .ok (.invokevirtual 167, 3) := by decide +kernel
theorem gd_Desk_solve_30 : decode gb_Desk_solve 30 = .ok (.istore_n 1, 1) := by decide +kernel
theorem gd_Desk_solve_31 : decode gb_Desk_solve 31 = .ok (.iload_n 1, 1) := by decide +kernel
theorem gd_Desk_solve_32 : decode gb_Desk_solve 32 = .ok (.iconst (-1), 1) := by decide +kernel
theorem gd_Desk_solve_33 : decode gb_Desk_solve 33 = .ok (.if_icmp .eq 12, 3) := by decide +kernel
theorem gd_Desk_solve_36 : decode gb_Desk_solve 36 = .ok (.aload_n 0, 1) := by decide +kernel
theorem gd_Desk_solve_37 : decode gb_Desk_solve 37 = .ok (.getfield 19, 3) := by decide +kernel
theorem gd_Desk_solve_40 : decode gb_Desk_solve 40 = .ok (.iload_n 1, 1) := by decide +kernel
theorem gd_Desk_solve_41 : decode gb_Desk_solve 41 = .ok (.invokevirtual 171, 3) := by decide +kernel
theorem gd_Desk_solve_44 : decode gb_Desk_solve 44 = .ok (.ireturn, 1) := by decide +kernel
theorem gd_Desk_solve_45 : decode gb_Desk_solve 45 = .ok (.aload_n 0, 1) := by decide +kernel
theorem gd_Desk_solve_46 : decode gb_Desk_solve 46 = .ok (.getfield 31, 3) := by decide +kernel
theorem gd_Desk_solve_49 : decode gb_Desk_solve 49 = .ok (.aload_n 0, 1) := by decide +kernel
theorem gd_Desk_solve_50 : decode gb_Desk_solve 50 = .ok (.getfield 75, 3) := by decide +kernel
theorem gd_Desk_solve_53 : decode gb_Desk_solve 53 = .ok (.invokevirtual 174, 3) := by decide +kernel
theorem gd_Desk_solve_56 : decode gb_Desk_solve 56 = .ok (.ifCond .ne 11, 3) := by decide +kernel
theorem gd_Desk_solve_59 : decode gb_Desk_solve 59 = .ok (.new 178, 3) := by decide +kernel
theorem gd_Desk_solve_62 : decode gb_Desk_solve 62 = .ok (.dup, 1) := by decide +kernel
theorem gd_Desk_solve_63 : decode gb_Desk_solve 63 = .ok (.invokespecial 180, 3) := by decide +kernel
theorem gd_Desk_solve_66 : decode gb_Desk_solve 66 = .ok (.athrow, 1) := by decide +kernel
theorem gd_Desk_solve_67 : decode gb_Desk_solve 67 = .ok (.aload_n 0, 1) := by decide +kernel
theorem gd_Desk_solve_68 : decode gb_Desk_solve 68 = .ok (.getfield 75, 3) := by decide +kernel
theorem gd_Desk_solve_71 : decode gb_Desk_solve 71 = .ok (.astore_n 2, 1) := by decide +kernel
theorem gd_Desk_solve_72 : decode gb_Desk_solve 72 = .ok (.aload_n 0, 1) := by decide +kernel
theorem gd_Desk_solve_73 : decode gb_Desk_solve 73 = .ok (.aload_n 0, 1) := by decide +kernel
theorem gd_Desk_solve_74 : decode gb_Desk_solve 74 = .ok (.getfield 71, 3) := by decide +kernel
theorem gd_Desk_solve_77 : decode gb_Desk_solve 77 = .ok (.putfield 75, 3) := by decide +kernel
theorem gd_Desk_solve_80 : decode gb_Desk_solve 80 = .ok (.aload_n 0, 1) := by decide +kernel
theorem gd_Desk_solve_81 : decode gb_Desk_solve 81 = .ok (.aload_n 2, 1) := by decide +kernel
theorem gd_Desk_solve_82 : decode gb_Desk_solve 82 = .ok (.putfield 71, 3) := by decide +kernel
theorem gd_Desk_solve_85 : decode gb_Desk_solve 85 = .ok (.iconst (-1), 1) := by decide +kernel
theorem gd_Desk_solve_86 : decode gb_Desk_solve 86 = .ok (.ireturn, 1) := by decide +kernel
def gf_Desk_solve_b0 (F : Nat) (z : gw_Sh)  (u : gw_St) (t0 : Nat) : Option ((Int32 ⊕ Nat) × gw_St) :=
  gf_nn (u.2.2 t0 1) fun q1 => if (u.1 q1 4) = (-1 : Int32) then (some (.inr 2, u)) else (gf_nn (u.2.2 t0 2) fun q4 => gf_nn (u.2.2 t0 1) fun q6 => gf_cl (gf_Equations_takeAll F z u q4 q6) fun a10 u8 => if a10 = (-1 : Int32) then (gf_nn (u8.2.2 t0 2) fun q12 => gf_nn (u8.2.2 t0 8) fun q14 => gf_cl (gf_Equations_readSpeeds F z u8 q12 q14) fun a18 u16 => if a18 = 0 then (some (.inr 4, u16)) else (gf_nn (u16.2.2 t0 8) fun q20 => gf_nn (u16.2.2 t0 7) fun q22 => gf_nm (gw_wr u16 t0 8 (q22 + 1)) fun u24 => gf_nm (gw_wr u24 t0 7 (q20 + 1)) fun u26 => some (.inl (-1 : Int32), u26))) else (gf_nn (u8.2.2 t0 1) fun q28 => gf_cl (gf_Works_lowestGear F z u8 q28 a10) fun a32 u30 => some (.inl a32, u30)))
def gf_Desk_solve (F : Nat) (z : gw_Sh) (u : gw_St) (t0 : Nat) : Option ((Int32 ⊕ Nat) × gw_St) := gf_Desk_solve_b0 F z  u t0
set_option maxHeartbeats 4000000 in
set_option maxRecDepth 20000 in
theorem gx_Desk_solve_b0 {p : Program} {l : Launch} {e : Env} {s : State} {m : MethodId} {args : Array Value} {below : List Frame} {meth : Method} {c : Code} {D : va_G} {cA : Nat → ClassId} {hs : Nat → Nat} {z : gw_Sh} (F : Nat) {r0 : ((Int32 ⊕ Nat) × gw_St)} (C : gw_Cx p s m args c gb_Desk_solve 3 R_Desk D cA) (hr : meth.sig.returnType = (some .int)) (hk : meth.locks = false) {R : Room} (hR : 8 ≤ R.frames ∧ 227 ≤ R.locals) (hfl : l.flags = pinnedFlags ++ [noTraceFlag]) (hne : c.exceptionTable.isEmpty = true) (hX : xt_Ok e s R hs z r0) (u : gw_St) (t0 : Nat) (o_t0 : gw_ok z t0 0) {H : Heap} {locs : List Loc} {ls : Array Slot} (hW : gw_Wx D cA hs z s u H locs) (hl : lv_has ls 3 [(0, .ref (hs t0))]) (h : gf_Desk_solve_b0 F z   u t0 = some r0) : gw_Ti p l e R s m args below meth c D cA hs z r0 H locs ls 0 [] := by
  obtain ⟨hx, hb, hml, hown, hts, hK⟩ := id C
  unfold gf_Desk_solve_b0 at h
  refine lv_aload_n hx hb gd_Desk_solve_0 rfl (lv_at hl 0 rfl) ?_
  obtain ⟨q1, e2, h⟩ := gf_nn_ok h
  refine gw_getr (k := 1) (ty := 2) (ref := R_Desk) C hW o_t0 (by decide) rfl gi_Desk rfl (by decide) rfl rfl gk_352 gd_Desk_solve_1 e2 ?_
  have o_q1 := hW.ref (d := 2) o_t0 e2 rfl
  refine gw_geti (k := 4) (ref := R_Works) C hW o_q1 (by decide) rfl gi_Works rfl (by decide) rfl rfl gk_730 gd_Desk_solve_4 ?_
  refine lv_iconst (v := (-1)) hx hb gd_Desk_solve_7 (by decide) ?_
  refine lv_icmp_ne (tgt := 19) hx hb gd_Desk_solve_8 (by decide) (fun c3 => ?_) (fun c3 => ?_)
  · have h := gf_f c3 h
    refine lv_aload_n hx hb gd_Desk_solve_19 rfl (lv_at hl 0 rfl) ?_
    obtain ⟨q4, e5, h⟩ := gf_nn_ok h
    refine gw_getr (k := 2) (ty := 4) (ref := R_Desk) C hW o_t0 (by decide) rfl gi_Desk rfl (by decide) rfl rfl gk_732 gd_Desk_solve_20 e5 ?_
    have o_q4 := hW.ref (d := 4) o_t0 e5 rfl
    refine lv_aload_n hx hb gd_Desk_solve_23 rfl (lv_at hl 0 rfl) ?_
    obtain ⟨q6, e7, h⟩ := gf_nn_ok h
    refine gw_getr (k := 1) (ty := 2) (ref := R_Desk) C hW o_t0 (by decide) rfl gi_Desk rfl (by decide) rfl rfl gk_352 gd_Desk_solve_24 e7 ?_
    have o_q6 := hW.ref (d := 2) o_t0 e7 rfl
    obtain ⟨a10, u8, d9, h⟩ := gf_cl_ok h
    refine gw_callVi (K := R_Equations) (As := [.ref (hs q6)]) (rest := []) C hW (fun _ h => Or.inr h) hl.1 gm_Equations_takeAll (gc_Equations_takeAll l F o_q4 o_q6 d9 _) gk_733 gk_734 gk_735 o_q4 (by decide) rfl rfl rfl ⟨(Nat.le_trans (m := 8) (Nat.le_of_ble_eq_true rfl) hR.1), (Nat.le_trans (m := 227) (Nat.le_of_ble_eq_true rfl) hR.2)⟩ ⟨Nat.zero_le _, Nat.zero_le _⟩ rfl rfl (Nat.le_of_ble_eq_true rfl) gd_Desk_solve_27 (fun H locs hW => ?_)
    refine lv_istore_n (lv' := [(1, .int a10), (0, .ref (hs t0))]) hx hb gd_Desk_solve_30 rfl hl (by decide) rfl (fun ls hl => ?_)
    refine lv_iload_n hx hb gd_Desk_solve_31 rfl (lv_at hl 0 rfl) ?_
    refine lv_iconst (v := (-1)) hx hb gd_Desk_solve_32 (by decide) ?_
    refine lv_icmp_eq (tgt := 45) hx hb gd_Desk_solve_33 (by decide) (fun c11 => ?_) (fun c11 => ?_)
    · have h := gf_t c11 h
      refine lv_aload_n hx hb gd_Desk_solve_45 rfl (lv_at hl 1 rfl) ?_
      obtain ⟨q12, e13, h⟩ := gf_nn_ok h
      refine gw_getr (k := 2) (ty := 4) (ref := R_Desk) C hW o_t0 (by decide) rfl gi_Desk rfl (by decide) rfl rfl gk_732 gd_Desk_solve_46 e13 ?_
      have o_q12 := hW.ref (d := 4) o_t0 e13 rfl
      refine lv_aload_n hx hb gd_Desk_solve_49 rfl (lv_at hl 1 rfl) ?_
      obtain ⟨q14, e15, h⟩ := gf_nn_ok h
      refine gw_getr (k := 8) (ty := 3) (ref := R_Desk) C hW o_t0 (by decide) rfl gi_Desk rfl (by decide) rfl rfl gk_736 gd_Desk_solve_50 e15 ?_
      have o_q14 := hW.ref (d := 3) o_t0 e15 rfl
      obtain ⟨a18, u16, d17, h⟩ := gf_cl_ok h
      refine gw_callVi (K := R_Equations) (As := [.ref (hs q14)]) (rest := []) C hW (fun _ h => Or.inr h) hl.1 gm_Equations_readSpeeds (gc_Equations_readSpeeds l F o_q12 o_q14 d17 _) gk_737 gk_738 gk_739 o_q12 (by decide) rfl rfl rfl ⟨(Nat.le_trans (m := 8) (Nat.le_of_ble_eq_true rfl) hR.1), (Nat.le_trans (m := 227) (Nat.le_of_ble_eq_true rfl) hR.2)⟩ ⟨Nat.zero_le _, Nat.zero_le _⟩ rfl rfl (Nat.le_of_ble_eq_true rfl) gd_Desk_solve_53 (fun H locs hW => ?_)
      refine lv_if_ne (tgt := 67) hx hb gd_Desk_solve_56 (by decide) (fun c19 => ?_) (fun c19 => ?_)
      · have h := gf_f c19 h
        refine lv_aload_n hx hb gd_Desk_solve_67 rfl (lv_at hl 1 rfl) ?_
        obtain ⟨q20, e21, h⟩ := gf_nn_ok h
        refine gw_getr (k := 8) (ty := 3) (ref := R_Desk) C hW o_t0 (by decide) rfl gi_Desk rfl (by decide) rfl rfl gk_736 gd_Desk_solve_68 e21 ?_
        have o_q20 := hW.ref (d := 3) o_t0 e21 rfl
        refine lv_astore_n (lv' := [(2, .ref (hs q20)), (1, .int a10), (0, .ref (hs t0))]) hx hb gd_Desk_solve_71 rfl hl (by decide) rfl (fun ls hl => ?_)
        refine lv_aload_n hx hb gd_Desk_solve_72 rfl (lv_at hl 2 rfl) ?_
        refine lv_aload_n hx hb gd_Desk_solve_73 rfl (lv_at hl 2 rfl) ?_
        obtain ⟨q22, e23, h⟩ := gf_nn_ok h
        refine gw_getr (k := 7) (ty := 3) (ref := R_Desk) C hW o_t0 (by decide) rfl gi_Desk rfl (by decide) rfl rfl gk_357 gd_Desk_solve_74 e23 ?_
        have o_q22 := hW.ref (d := 3) o_t0 e23 rfl
        refine gw_putr (k := 8) (ty := 3) (ref := R_Desk) (fty := .object R_Speeds) C hW o_t0 o_q22 (by decide) rfl gi_Desk rfl (by decide) rfl rfl gk_736 tf_Desk tf_Desk_ok nm_Desk rfl rfl (fun _ => rfl) (fun _ => rfl) gd_Desk_solve_77 (fun u24 H locs e25 hW => ?_)
        have h := gf_nm_ok e25 h
        refine lv_aload_n hx hb gd_Desk_solve_80 rfl (lv_at hl 2 rfl) ?_
        refine lv_aload_n hx hb gd_Desk_solve_81 rfl (lv_at hl 0 rfl) ?_
        refine gw_putr (k := 7) (ty := 3) (ref := R_Desk) (fty := .object R_Speeds) C hW o_t0 o_q20 (by decide) rfl gi_Desk rfl (by decide) rfl rfl gk_357 tf_Desk tf_Desk_ok nm_Desk rfl rfl (fun _ => rfl) (fun _ => rfl) gd_Desk_solve_82 (fun u26 H locs e27 hW => ?_)
        have h := gf_nm_ok e27 h
        refine lv_iconst (v := (-1)) hx hb gd_Desk_solve_85 (by decide) ?_
        obtain rfl := Option.some.inj h
        exact gw_iret C hW hr hk gd_Desk_solve_86
      · have h := gf_t c19 h
        obtain rfl := Option.some.inj h
        have hX9 : e.platform.stackTraces = false ∧ xt_Zs (gw_A hs z s.heap.size) s s.heap ∧ 1 ≤ R.cells ∧ 6 ≤ R.slots := hX
        exact xt_throw (k := 4) C hW (fun _ h => Or.inr h) hX9.2.1 hX9.1 hl.1 hk (xt_out hne _) (by decide +kernel) xa_4 gk_740 gk_741 gk_742 gd_Desk_solve_59 gd_Desk_solve_62 gd_Desk_solve_63 gd_Desk_solve_66 (Nat.le_trans (m := 8) (Nat.le_of_ble_eq_true rfl) hR.1) (Nat.le_trans (m := 227) (Nat.le_of_ble_eq_true rfl) hR.2) hX9.2.2.1 hX9.2.2.2
    · have h := gf_f c11 h
      refine lv_aload_n hx hb gd_Desk_solve_36 rfl (lv_at hl 1 rfl) ?_
      obtain ⟨q28, e29, h⟩ := gf_nn_ok h
      refine gw_getr (k := 1) (ty := 2) (ref := R_Desk) C hW o_t0 (by decide) rfl gi_Desk rfl (by decide) rfl rfl gk_352 gd_Desk_solve_37 e29 ?_
      have o_q28 := hW.ref (d := 2) o_t0 e29 rfl
      refine lv_iload_n hx hb gd_Desk_solve_40 rfl (lv_at hl 0 rfl) ?_
      obtain ⟨a32, u30, d31, h⟩ := gf_cl_ok h
      refine gw_callVi (K := R_Works) (As := [.int a10]) (rest := []) C hW (fun _ h => Or.inr h) hl.1 gm_Works_lowestGear (gc_Works_lowestGear l F o_q28 d31 _) gk_743 gk_744 gk_745 o_q28 (by decide) rfl rfl rfl ⟨(Nat.le_trans (m := 8) (Nat.le_of_ble_eq_true rfl) hR.1), (Nat.le_trans (m := 227) (Nat.le_of_ble_eq_true rfl) hR.2)⟩ ⟨Nat.zero_le _, Nat.zero_le _⟩ rfl rfl (Nat.le_of_ble_eq_true rfl) gd_Desk_solve_41 (fun H locs hW => ?_)
      obtain rfl := Option.some.inj h
      exact gw_iret C hW hr hk gd_Desk_solve_44
  · have h := gf_t c3 h
    obtain rfl := Option.some.inj h
    have hX9 : e.platform.stackTraces = false ∧ xt_Zs (gw_A hs z s.heap.size) s s.heap ∧ 1 ≤ R.cells ∧ 6 ≤ R.slots := hX
    exact xt_throw (k := 2) C hW (fun _ h => Or.inr h) hX9.2.1 hX9.1 hl.1 hk (xt_out hne _) (by decide +kernel) xa_2 gk_675 gk_676 gk_677 gd_Desk_solve_11 gd_Desk_solve_14 gd_Desk_solve_15 gd_Desk_solve_18 (Nat.le_trans (m := 8) (Nat.le_of_ble_eq_true rfl) hR.1) (Nat.le_trans (m := 227) (Nat.le_of_ble_eq_true rfl) hR.2) hX9.2.2.1 hX9.2.2.2

set_option maxRecDepth 20000 in
theorem gc_Desk_solve (l : Launch) (hfl : l.flags = pinnedFlags ++ [noTraceFlag]) {D : va_G} {cA : Nat → ClassId} {hs : Nat → Nat} {z : gw_Sh} (F : Nat) {u w : gw_St} {v : Int32} {t0 : Nat} (o_t0 : gw_ok z t0 0) (h : gf_Desk_solve F z u t0 = some (.inl v, w)) (sz : Nat) : gw_Mi l gy_Desk_solve gb_Desk_solve 3 (some .int) (gw_rm 8 227) [.ref (hs t0)] D cA hs z u sz (v, w) := by
  refine xt_enter0 (by decide) (Nat.le_of_ble_eq_true rfl) ?_
  intro p e s m below meth c ls hsz C hW hr hk hne hl
  subst hsz
  exact gx_Desk_solve_b0 (e := e) (hs := hs) (z := z) (R := gw_rm 8 227) (r0 := (.inl v, w)) F C hr hk ⟨Nat.le_refl _, Nat.le_refl _⟩ hfl hne trivial u t0 o_t0 hW (lv_sub hl [0] rfl) h
set_option maxRecDepth 20000 in
theorem gt_Desk_solve (l : Launch) (hfl : l.flags = pinnedFlags ++ [noTraceFlag]) {D : va_G} {cA : Nat → ClassId} {hs : Nat → Nat} {z : gw_Sh} (F : Nat) {u w : gw_St} {k : Nat} {t0 : Nat} (o_t0 : gw_ok z t0 0) (h : gf_Desk_solve F z u t0 = some (.inr k, w)) (sz : Nat) : gw_Mt l gy_Desk_solve gb_Desk_solve 3 (some .int) (xt_rm 8 227) [.ref (hs t0)] D cA hs z u sz k w := by
  refine xt_enter hfl (by decide) (Nat.le_of_ble_eq_true rfl) ?_
  intro p e s m below meth c ls hsz C hW hr hk hne hZ htr hl
  exact gx_Desk_solve_b0 (e := e) (hs := hs) (z := z) (R := xt_rm 8 227) (r0 := (.inr k, w)) F C hr hk ⟨Nat.le_refl _, Nat.le_refl _⟩ hfl hne ⟨htr, hZ, Nat.le_refl _, Nat.le_refl _⟩ u t0 o_t0 hW (lv_sub hl [0] rfl) h
-- GearDesk.speed(III)I
theorem gk_747 : Cond.fieldLink R_Desk 181 R_Speeds "known" "[Z" ∈ gt_T := gt_m2 (List.mem_of_getElem? (i := 82) rfl) rfl
theorem gk_748 : Cond.fieldLink R_Desk 185 R_Speeds "values" "[LGearDesk$Fraction;" ∈ gt_T := gt_m2 (List.mem_of_getElem? (i := 85) rfl) rfl
theorem gk_749 : Cond.fieldLink R_Desk 58 R_Fraction "bottom" "LGearDesk$Whole;" ∈ gt_T := gt_m1 (List.mem_of_getElem? (i := 206) rfl) rfl
theorem gk_750 : Cond.methodLink R_Desk 195 gy_Whole_word ∈ gt_T := gt_m5 (List.mem_of_getElem? (i := 200) rfl) rfl
theorem gk_751 : Cond.fieldLink R_Desk 189 R_Fraction "top" "LGearDesk$Whole;" ∈ gt_T := gt_m1 (List.mem_of_getElem? (i := 204) rfl) rfl
theorem gk_752 : Cond.fieldLink R_Desk 192 R_Whole "sign" "I" ∈ gt_T := gt_m1 (List.mem_of_getElem? (i := 153) rfl) rfl
def gy_Desk_speed : MethodName := ⟨R_Desk, "speed", "(III)I"⟩
abbrev gb_Desk_speed : ByteArray := prog_1_method_16_code
theorem gk_753 : Cond.code gy_Desk_speed gb_Desk_speed 5 (some .int) ∈ gt_T := gt_m5 (List.mem_of_getElem? (i := 199) rfl) rfl
theorem gm_Desk_speed : gw_Mth gy_Desk_speed gb_Desk_speed 5 (some .int) 3 := ⟨gk_753, gk_361, ⟨by decide +kernel, by decide +kernel⟩, by decide +kernel⟩
theorem gd_Desk_speed_0 : decode gb_Desk_speed 0 = .ok (.aload_n 0, 1) := by decide +kernel
theorem gd_Desk_speed_1 : decode gb_Desk_speed 1 = .ok (.iload_n 1, 1) := by decide +kernel
theorem gd_Desk_speed_2 : decode gb_Desk_speed 2 = .ok (.invokevirtual 149, 3) := by decide +kernel
theorem gd_Desk_speed_5 : decode gb_Desk_speed 5 = .ok (.iload_n 2, 1) := by decide +kernel
theorem gd_Desk_speed_6 : decode gb_Desk_speed 6 = .ok (.ifCond .lt 26, 3) := by decide +kernel
theorem gd_Desk_speed_9 : decode gb_Desk_speed 9 = .ok (.iload_n 2, 1) := by decide +kernel
theorem gd_Desk_speed_10 : decode gb_Desk_speed 10 = .ok (.iconst 2, 1) := by decide +kernel
theorem gd_Desk_speed_11 : decode gb_Desk_speed 11 = .ok (.if_icmp .gt 21, 3) := by decide +kernel
theorem gd_Desk_speed_14 : decode gb_Desk_speed 14 = .ok (.iload_n 3, 1) := by decide +kernel
theorem gd_Desk_speed_15 : decode gb_Desk_speed 15 = .ok (.ifCond .lt 17, 3) := by decide +kernel
theorem gd_Desk_speed_18 : decode gb_Desk_speed 18 = .ok (.iload_n 3, 1) := by decide +kernel
theorem gd_Desk_speed_19 : decode gb_Desk_speed 19 = .ok (.iload_n 2, 1) := by decide +kernel
theorem gd_Desk_speed_20 : decode gb_Desk_speed 20 = .ok (.ifCond .ne 7, 3) := by decide +kernel
theorem gd_Desk_speed_23 : decode gb_Desk_speed 23 = .ok (.iconst 1, 1) := by decide +kernel
theorem gd_Desk_speed_24 : decode gb_Desk_speed 24 = .ok (.goto 5, 3) := by decide +kernel
theorem gd_Desk_speed_27 : decode gb_Desk_speed 27 = .ok (.bipush 8, 2) := by decide +kernel
theorem gd_Desk_speed_29 : decode gb_Desk_speed 29 = .ok (.if_icmp .lt 11, 3) := by decide +kernel
theorem gd_Desk_speed_32 : decode gb_Desk_speed 32 = .ok (.new 117, 3) := by decide +kernel
theorem gd_Desk_speed_35 : decode gb_Desk_speed 35 = .ok (.dup, 1) := by decide +kernel
theorem gd_Desk_speed_36 : decode gb_Desk_speed 36 = .ok (.invokespecial 119, 3) := by decide +kernel
theorem gd_Desk_speed_39 : decode gb_Desk_speed 39 = .ok (.athrow, 1) := by decide +kernel
theorem gd_Desk_speed_40 : decode gb_Desk_speed 40 = .ok (.aload_n 0, 1) := by decide +kernel
theorem gd_Desk_speed_41 : decode gb_Desk_speed 41 = .ok (.getfield 71, 3) := by decide +kernel
theorem gd_Desk_speed_44 : decode gb_Desk_speed 44 = .ok (.getfield 181, 3) := by decide +kernel
theorem gd_Desk_speed_47 : decode gb_Desk_speed 47 = .ok (.iload_n 1, 1) := by decide +kernel
theorem gd_Desk_speed_48 : decode gb_Desk_speed 48 = .ok (.baload, 1) := by decide +kernel
theorem gd_Desk_speed_49 : decode gb_Desk_speed 49 = .ok (.ifCond .ne 11, 3) := by decide +kernel
theorem gd_Desk_speed_52 : decode gb_Desk_speed 52 = .ok (.new 100, 3) := by decide +kernel
theorem gd_Desk_speed_55 : decode gb_Desk_speed 55 = .ok (.dup, 1) := by decide +kernel
theorem gd_Desk_speed_56 : decode gb_Desk_speed 56 = .ok (.invokespecial 102, 3) := by decide +kernel
theorem gd_Desk_speed_59 : decode gb_Desk_speed 59 = .ok (.athrow, 1) := by decide +kernel
theorem gd_Desk_speed_60 : decode gb_Desk_speed 60 = .ok (.aload_n 0, 1) := by decide +kernel
theorem gd_Desk_speed_61 : decode gb_Desk_speed 61 = .ok (.getfield 71, 3) := by decide +kernel
theorem gd_Desk_speed_64 : decode gb_Desk_speed 64 = .ok (.getfield 185, 3) := by decide +kernel
theorem gd_Desk_speed_67 : decode gb_Desk_speed 67 = .ok (.iload_n 1, 1) := by decide +kernel
theorem gd_Desk_speed_68 : decode gb_Desk_speed 68 = .ok (.aaload, 1) := by decide +kernel
theorem gd_Desk_speed_69 : decode gb_Desk_speed 69 = .ok (.astore 4, 2) := by decide +kernel
theorem gd_Desk_speed_71 : decode gb_Desk_speed 71 = .ok (.iload_n 2, 1) := by decide +kernel
theorem gd_Desk_speed_72 : decode gb_Desk_speed 72 = .ok (.ifCond .ne 12, 3) := by decide +kernel
theorem gd_Desk_speed_75 : decode gb_Desk_speed 75 = .ok (.aload 4, 2) := by decide +kernel
theorem gd_Desk_speed_77 : decode gb_Desk_speed 77 = .ok (.getfield 189, 3) := by decide +kernel
theorem gd_Desk_speed_80 : decode gb_Desk_speed 80 = .ok (.getfield 192, 3) := by decide +kernel
theorem gd_Desk_speed_83 : decode gb_Desk_speed 83 = .ok (.ireturn, 1) := by decide +kernel
theorem gd_Desk_speed_84 : decode gb_Desk_speed 84 = .ok (.iload_n 2, 1) := by decide +kernel
theorem gd_Desk_speed_85 : decode gb_Desk_speed 85 = .ok (.iconst 1, 1) := by decide +kernel
theorem gd_Desk_speed_86 : decode gb_Desk_speed 86 = .ok (.if_icmp .ne 15, 3) := by decide +kernel
theorem gd_Desk_speed_89 : decode gb_Desk_speed 89 = .ok (.aload 4, 2) := by decide +kernel
theorem gd_Desk_speed_91 : decode gb_Desk_speed 91 = .ok (.getfield 189, 3) := by decide +kernel
theorem gd_Desk_speed_94 : decode gb_Desk_speed 94 = .ok (.iload_n 3, 1) := by decide +kernel
theorem gd_Desk_speed_95 : decode gb_Desk_speed 95 = .ok (.invokevirtual 195, 3) := by decide +kernel
theorem gd_Desk_speed_98 : decode gb_Desk_speed 98 = .ok (.goto 12, 3) := by decide +kernel
theorem gd_Desk_speed_101 : decode gb_Desk_speed 101 = .ok (.aload 4, 2) := by decide +kernel
theorem gd_Desk_speed_103 : decode gb_Desk_speed 103 = .ok (.getfield 58, 3) := by decide +kernel
theorem gd_Desk_speed_106 : decode gb_Desk_speed 106 = .ok (.iload_n 3, 1) := by decide +kernel
theorem gd_Desk_speed_107 : decode gb_Desk_speed 107 = .ok (.invokevirtual 195, 3) := by decide +kernel
theorem gd_Desk_speed_110 : decode gb_Desk_speed 110 = .ok (.ireturn, 1) := by decide +kernel
def gf_Desk_speed_b32 (F : Nat) (z : gw_Sh)  (u : gw_St)  : Option ((Int32 ⊕ Nat) × gw_St) :=
  some (.inr 3, u)
def gf_Desk_speed_b110 (F : Nat) (z : gw_Sh)  (u : gw_St) (sx0 : Int32) : Option ((Int32 ⊕ Nat) × gw_St) :=
  some (.inl sx0, u)
def gf_Desk_speed_b29 (F : Nat) (z : gw_Sh)  (u : gw_St) (t0 : Nat) (x1 : Int32) (x2 : Int32) (x3 : Int32) (sx0 : Int32) (sx1 : Int32) : Option ((Int32 ⊕ Nat) × gw_St) :=
  if sx0 < sx1 then (gf_nn (u.2.2 t0 7) fun q2 => gf_nn (u.2.2 q2 0) fun q4 => if (x1 < 0 ∨ z.2.2 q4 ≤ (x1).toNatClampNeg) then none else if (u.1 q4 (x1).toNatClampNeg) = 0 then (some (.inr 2, u)) else (gf_nn (u.2.2 t0 7) fun q8 => gf_nn (u.2.2 q8 1) fun q10 => if (x1 < 0 ∨ z.2.2 q10 ≤ (x1).toNatClampNeg) then none else gf_nn (u.2.2 q10 (x1).toNatClampNeg) fun q13 => if x2 = 0 then (gf_nn (u.2.2 q13 0) fun q27 => some (.inl (u.1 q27 2), u)) else (if x2 = (1 : Int32) then (gf_nn (u.2.2 q13 0) fun q22 => gf_cl (gf_Whole_word F z u q22 x3) fun a26 u24 => gf_Desk_speed_b110 F z  u24 a26) else (gf_nn (u.2.2 q13 1) fun q17 => gf_cl (gf_Whole_word F z u q17 x3) fun a21 u19 => gf_Desk_speed_b110 F z  u19 a21)))) else (gf_Desk_speed_b32 F z  u )
def gf_Desk_speed_b0 (F : Nat) (z : gw_Sh)  (u : gw_St) (t0 : Nat) (x1 : Int32) (x2 : Int32) (x3 : Int32) : Option ((Int32 ⊕ Nat) × gw_St) :=
  gf_ct (gf_Desk_needGear F z u t0 x1) fun a31 u29 => if x2 < 0 then (gf_Desk_speed_b32 F z  u29 ) else (if (2 : Int32) < x2 then (gf_Desk_speed_b32 F z  u29 ) else (if x3 < 0 then (gf_Desk_speed_b32 F z  u29 ) else (if x2 = 0 then (gf_Desk_speed_b29 F z  u29 t0 x1 x2 x3 x3 1) else (gf_Desk_speed_b29 F z  u29 t0 x1 x2 x3 x3 8))))
def gf_Desk_speed (F : Nat) (z : gw_Sh) (u : gw_St) (t0 : Nat) (x1 : Int32) (x2 : Int32) (x3 : Int32) : Option ((Int32 ⊕ Nat) × gw_St) := gf_Desk_speed_b0 F z  u t0 x1 x2 x3
set_option maxHeartbeats 4000000 in
set_option maxRecDepth 20000 in
theorem gx_Desk_speed_b32 {p : Program} {l : Launch} {e : Env} {s : State} {m : MethodId} {args : Array Value} {below : List Frame} {meth : Method} {c : Code} {D : va_G} {cA : Nat → ClassId} {hs : Nat → Nat} {z : gw_Sh} (F : Nat) {r0 : ((Int32 ⊕ Nat) × gw_St)} (C : gw_Cx p s m args c gb_Desk_speed 5 R_Desk D cA) (hr : meth.sig.returnType = (some .int)) (hk : meth.locks = false) {R : Room} (hR : 7 ≤ R.frames ∧ 141 ≤ R.locals) (hfl : l.flags = pinnedFlags ++ [noTraceFlag]) (hne : c.exceptionTable.isEmpty = true) (hX : xt_Ok e s R hs z r0) (u : gw_St)   {H : Heap} {locs : List Loc} {ls : Array Slot} (hW : gw_Wx D cA hs z s u H locs) (hl : lv_has ls 5 []) (h : gf_Desk_speed_b32 F z   u  = some r0) : gw_Ti p l e R s m args below meth c D cA hs z r0 H locs ls 32 [] := by
  obtain ⟨hx, hb, hml, hown, hts, hK⟩ := id C
  unfold gf_Desk_speed_b32 at h
  obtain rfl := Option.some.inj h
  have hX9 : e.platform.stackTraces = false ∧ xt_Zs (gw_A hs z s.heap.size) s s.heap ∧ 1 ≤ R.cells ∧ 6 ≤ R.slots := hX
  exact xt_throw (k := 3) C hW (fun _ h => Or.inr h) hX9.2.1 hX9.1 hl.1 hk (xt_out hne _) (by decide +kernel) xa_3 gk_680 gk_681 gk_682 gd_Desk_speed_32 gd_Desk_speed_35 gd_Desk_speed_36 gd_Desk_speed_39 (Nat.le_trans (m := 7) (Nat.le_of_ble_eq_true rfl) hR.1) (Nat.le_trans (m := 141) (Nat.le_of_ble_eq_true rfl) hR.2) hX9.2.2.1 hX9.2.2.2

set_option maxHeartbeats 4000000 in
set_option maxRecDepth 20000 in
theorem gx_Desk_speed_b110 {p : Program} {l : Launch} {e : Env} {s : State} {m : MethodId} {args : Array Value} {below : List Frame} {meth : Method} {c : Code} {D : va_G} {cA : Nat → ClassId} {hs : Nat → Nat} {z : gw_Sh} (F : Nat) {r0 : ((Int32 ⊕ Nat) × gw_St)} (C : gw_Cx p s m args c gb_Desk_speed 5 R_Desk D cA) (hr : meth.sig.returnType = (some .int)) (hk : meth.locks = false) {R : Room} (hR : 7 ≤ R.frames ∧ 141 ≤ R.locals) (hfl : l.flags = pinnedFlags ++ [noTraceFlag]) (hne : c.exceptionTable.isEmpty = true) (hX : xt_Ok e s R hs z r0) (u : gw_St) (sx0 : Int32)  {H : Heap} {locs : List Loc} {ls : Array Slot} (hW : gw_Wx D cA hs z s u H locs) (hl : lv_has ls 5 []) (h : gf_Desk_speed_b110 F z   u sx0 = some r0) : gw_Ti p l e R s m args below meth c D cA hs z r0 H locs ls 110 [.int sx0] := by
  obtain ⟨hx, hb, hml, hown, hts, hK⟩ := id C
  unfold gf_Desk_speed_b110 at h
  obtain rfl := Option.some.inj h
  exact gw_iret C hW hr hk gd_Desk_speed_110

set_option maxHeartbeats 4000000 in
set_option maxRecDepth 20000 in
theorem gx_Desk_speed_b29 {p : Program} {l : Launch} {e : Env} {s : State} {m : MethodId} {args : Array Value} {below : List Frame} {meth : Method} {c : Code} {D : va_G} {cA : Nat → ClassId} {hs : Nat → Nat} {z : gw_Sh} (F : Nat) {r0 : ((Int32 ⊕ Nat) × gw_St)} (C : gw_Cx p s m args c gb_Desk_speed 5 R_Desk D cA) (hr : meth.sig.returnType = (some .int)) (hk : meth.locks = false) {R : Room} (hR : 7 ≤ R.frames ∧ 141 ≤ R.locals) (hfl : l.flags = pinnedFlags ++ [noTraceFlag]) (hne : c.exceptionTable.isEmpty = true) (hX : xt_Ok e s R hs z r0) (u : gw_St) (t0 : Nat) (x1 : Int32) (x2 : Int32) (x3 : Int32) (sx0 : Int32) (sx1 : Int32) (o_t0 : gw_ok z t0 0) {H : Heap} {locs : List Loc} {ls : Array Slot} (hW : gw_Wx D cA hs z s u H locs) (hl : lv_has ls 5 [(0, .ref (hs t0)), (1, .int x1), (2, .int x2), (3, .int x3)]) (h : gf_Desk_speed_b29 F z   u t0 x1 x2 x3 sx0 sx1 = some r0) : gw_Ti p l e R s m args below meth c D cA hs z r0 H locs ls 29 [.int sx1, .int sx0] := by
  obtain ⟨hx, hb, hml, hown, hts, hK⟩ := id C
  unfold gf_Desk_speed_b29 at h
  refine lv_icmp_lt (tgt := 40) hx hb gd_Desk_speed_29 (by decide) (fun c1 => ?_) (fun c1 => ?_)
  · have h := gf_t c1 h
    refine lv_aload_n hx hb gd_Desk_speed_40 rfl (lv_at hl 0 rfl) ?_
    obtain ⟨q2, e3, h⟩ := gf_nn_ok h
    refine gw_getr (k := 7) (ty := 3) (ref := R_Desk) C hW o_t0 (by decide) rfl gi_Desk rfl (by decide) rfl rfl gk_357 gd_Desk_speed_41 e3 ?_
    have o_q2 := hW.ref (d := 3) o_t0 e3 rfl
    obtain ⟨q4, e5, h⟩ := gf_nn_ok h
    refine gw_getr (k := 0) (ty := 12) (ref := R_Speeds) C hW o_q2 (by decide) rfl gi_Speeds rfl (by decide) rfl rfl gk_747 gd_Desk_speed_44 e5 ?_
    have o_q4 := hW.ref (d := 12) o_q2 e5 rfl
    refine lv_iload_n hx hb gd_Desk_speed_47 rfl (lv_at hl 1 rfl) ?_
    obtain ⟨g6, h⟩ := gf_if_ok h
    refine gw_zald C hW o_q4 g6 gd_Desk_speed_48 ?_
    refine lv_if_ne (tgt := 60) hx hb gd_Desk_speed_49 (by decide) (fun c7 => ?_) (fun c7 => ?_)
    · have h := gf_f c7 h
      refine lv_aload_n hx hb gd_Desk_speed_60 rfl (lv_at hl 0 rfl) ?_
      obtain ⟨q8, e9, h⟩ := gf_nn_ok h
      refine gw_getr (k := 7) (ty := 3) (ref := R_Desk) C hW o_t0 (by decide) rfl gi_Desk rfl (by decide) rfl rfl gk_357 gd_Desk_speed_61 e9 ?_
      have o_q8 := hW.ref (d := 3) o_t0 e9 rfl
      obtain ⟨q10, e11, h⟩ := gf_nn_ok h
      refine gw_getr (k := 1) (ty := 13) (ref := R_Speeds) C hW o_q8 (by decide) rfl gi_Speeds rfl (by decide) rfl rfl gk_748 gd_Desk_speed_64 e11 ?_
      have o_q10 := hW.ref (d := 13) o_q8 e11 rfl
      refine lv_iload_n hx hb gd_Desk_speed_67 rfl (lv_at hl 1 rfl) ?_
      obtain ⟨g12, h⟩ := gf_if_ok h
      obtain ⟨q13, e14, h⟩ := gf_nn_ok h
      refine gw_aald C hW o_q10 g12 gd_Desk_speed_68 e14 ?_
      have o_q13 := hW.ref (d := 6) o_q10 e14 rfl
      refine lv_astore (lv' := [(4, .ref (hs q13)), (0, .ref (hs t0)), (1, .int x1), (2, .int x2), (3, .int x3)]) hx hb gd_Desk_speed_69 hl (by decide) rfl (fun ls hl => ?_)
      refine lv_iload_n hx hb gd_Desk_speed_71 rfl (lv_at hl 3 rfl) ?_
      refine lv_if_ne (tgt := 84) hx hb gd_Desk_speed_72 (by decide) (fun c15 => ?_) (fun c15 => ?_)
      · have h := gf_f c15 h
        refine lv_iload_n hx hb gd_Desk_speed_84 rfl (lv_at hl 3 rfl) ?_
        refine lv_iconst (v := 1) hx hb gd_Desk_speed_85 (by decide) ?_
        refine lv_icmp_ne (tgt := 101) hx hb gd_Desk_speed_86 (by decide) (fun c16 => ?_) (fun c16 => ?_)
        · have h := gf_f c16 h
          refine lv_aload hx hb gd_Desk_speed_101 (lv_at hl 0 rfl) ?_
          obtain ⟨q17, e18, h⟩ := gf_nn_ok h
          refine gw_getr (k := 1) (ty := 8) (ref := R_Fraction) C hW o_q13 (by decide) rfl gi_Fraction rfl (by decide) rfl rfl gk_749 gd_Desk_speed_103 e18 ?_
          have o_q17 := hW.ref (d := 8) o_q13 e18 rfl
          refine lv_iload_n hx hb gd_Desk_speed_106 rfl (lv_at hl 4 rfl) ?_
          obtain ⟨a21, u19, d20, h⟩ := gf_cl_ok h
          refine gw_callVi (K := R_Whole) (As := [.int x3]) (rest := []) C hW (fun _ h => Or.inr h) hl.1 gm_Whole_word (gc_Whole_word l F o_q17 d20 _) gk_750 gk_338 gk_339 o_q17 (by decide) rfl rfl rfl ⟨(Nat.le_trans (m := 7) (Nat.le_of_ble_eq_true rfl) hR.1), (Nat.le_trans (m := 141) (Nat.le_of_ble_eq_true rfl) hR.2)⟩ ⟨Nat.zero_le _, Nat.zero_le _⟩ rfl rfl (Nat.le_of_ble_eq_true rfl) gd_Desk_speed_107 (fun H locs hW => ?_)
          exact gx_Desk_speed_b110 F C hr hk hR hfl hne hX  u19 a21  hW (lv_sub hl [] rfl) h
        · have h := gf_t c16 h
          refine lv_aload hx hb gd_Desk_speed_89 (lv_at hl 0 rfl) ?_
          obtain ⟨q22, e23, h⟩ := gf_nn_ok h
          refine gw_getr (k := 0) (ty := 8) (ref := R_Fraction) C hW o_q13 (by decide) rfl gi_Fraction rfl (by decide) rfl rfl gk_751 gd_Desk_speed_91 e23 ?_
          have o_q22 := hW.ref (d := 8) o_q13 e23 rfl
          refine lv_iload_n hx hb gd_Desk_speed_94 rfl (lv_at hl 4 rfl) ?_
          obtain ⟨a26, u24, d25, h⟩ := gf_cl_ok h
          refine gw_callVi (K := R_Whole) (As := [.int x3]) (rest := []) C hW (fun _ h => Or.inr h) hl.1 gm_Whole_word (gc_Whole_word l F o_q22 d25 _) gk_750 gk_338 gk_339 o_q22 (by decide) rfl rfl rfl ⟨(Nat.le_trans (m := 7) (Nat.le_of_ble_eq_true rfl) hR.1), (Nat.le_trans (m := 141) (Nat.le_of_ble_eq_true rfl) hR.2)⟩ ⟨Nat.zero_le _, Nat.zero_le _⟩ rfl rfl (Nat.le_of_ble_eq_true rfl) gd_Desk_speed_95 (fun H locs hW => ?_)
          refine lv_goto (tgt := 110) hx hb gd_Desk_speed_98 (by decide) ?_
          exact gx_Desk_speed_b110 F C hr hk hR hfl hne hX  u24 a26  hW (lv_sub hl [] rfl) h
      · have h := gf_t c15 h
        refine lv_aload hx hb gd_Desk_speed_75 (lv_at hl 0 rfl) ?_
        obtain ⟨q27, e28, h⟩ := gf_nn_ok h
        refine gw_getr (k := 0) (ty := 8) (ref := R_Fraction) C hW o_q13 (by decide) rfl gi_Fraction rfl (by decide) rfl rfl gk_751 gd_Desk_speed_77 e28 ?_
        have o_q27 := hW.ref (d := 8) o_q13 e28 rfl
        refine gw_geti (k := 2) (ref := R_Whole) C hW o_q27 (by decide) rfl gi_Whole rfl (by decide) rfl rfl gk_752 gd_Desk_speed_80 ?_
        obtain rfl := Option.some.inj h
        exact gw_iret C hW hr hk gd_Desk_speed_83
    · have h := gf_t c7 h
      obtain rfl := Option.some.inj h
      have hX9 : e.platform.stackTraces = false ∧ xt_Zs (gw_A hs z s.heap.size) s s.heap ∧ 1 ≤ R.cells ∧ 6 ≤ R.slots := hX
      exact xt_throw (k := 2) C hW (fun _ h => Or.inr h) hX9.2.1 hX9.1 hl.1 hk (xt_out hne _) (by decide +kernel) xa_2 gk_675 gk_676 gk_677 gd_Desk_speed_52 gd_Desk_speed_55 gd_Desk_speed_56 gd_Desk_speed_59 (Nat.le_trans (m := 7) (Nat.le_of_ble_eq_true rfl) hR.1) (Nat.le_trans (m := 141) (Nat.le_of_ble_eq_true rfl) hR.2) hX9.2.2.1 hX9.2.2.2
  · have h := gf_f c1 h
    exact gx_Desk_speed_b32 F C hr hk hR hfl hne hX  u   hW (lv_sub hl [] rfl) h

set_option maxHeartbeats 4000000 in
set_option maxRecDepth 20000 in
theorem gx_Desk_speed_b0 {p : Program} {l : Launch} {e : Env} {s : State} {m : MethodId} {args : Array Value} {below : List Frame} {meth : Method} {c : Code} {D : va_G} {cA : Nat → ClassId} {hs : Nat → Nat} {z : gw_Sh} (F : Nat) {r0 : ((Int32 ⊕ Nat) × gw_St)} (C : gw_Cx p s m args c gb_Desk_speed 5 R_Desk D cA) (hr : meth.sig.returnType = (some .int)) (hk : meth.locks = false) {R : Room} (hR : 7 ≤ R.frames ∧ 141 ≤ R.locals) (hfl : l.flags = pinnedFlags ++ [noTraceFlag]) (hne : c.exceptionTable.isEmpty = true) (hX : xt_Ok e s R hs z r0) (u : gw_St) (t0 : Nat) (x1 : Int32) (x2 : Int32) (x3 : Int32) (o_t0 : gw_ok z t0 0) {H : Heap} {locs : List Loc} {ls : Array Slot} (hW : gw_Wx D cA hs z s u H locs) (hl : lv_has ls 5 [(0, .ref (hs t0)), (1, .int x1), (2, .int x2), (3, .int x3)]) (h : gf_Desk_speed_b0 F z   u t0 x1 x2 x3 = some r0) : gw_Ti p l e R s m args below meth c D cA hs z r0 H locs ls 0 [] := by
  obtain ⟨hx, hb, hml, hown, hts, hK⟩ := id C
  unfold gf_Desk_speed_b0 at h
  refine lv_aload_n hx hb gd_Desk_speed_0 rfl (lv_at hl 0 rfl) ?_
  refine lv_iload_n hx hb gd_Desk_speed_1 rfl (lv_at hl 1 rfl) ?_
  rcases gf_ct_ok h with ⟨k32, u29, d30, rfl⟩ | ⟨a31, u29, d30, h⟩
  · have hX9 : e.platform.stackTraces = false ∧ xt_Zs (gw_A hs z s.heap.size) s s.heap ∧ 1 ≤ R.cells ∧ 6 ≤ R.slots := hX
    exact xt_prop (K := R_Desk) (As := [.int x1]) (rest := []) C hW (fun _ h => Or.inr h) hX9.2.1 hl.1 hk hne gm_Desk_needGear (gt_Desk_needGear l hfl F o_t0 d30 _) gk_701 gk_702 gk_703 o_t0 (by decide) rfl rfl rfl ⟨(Nat.le_trans (m := 7) (Nat.le_of_ble_eq_true rfl) hR.1), (Nat.le_trans (m := 141) (Nat.le_of_ble_eq_true rfl) hR.2)⟩ hX9.2.2 rfl rfl (Nat.le_of_ble_eq_true rfl) gd_Desk_speed_2
  refine gw_callVv (K := R_Desk) (As := [.int x1]) (rest := []) C hW (fun _ h => Or.inr h) hl.1 gm_Desk_needGear (gc_Desk_needGear l hfl F o_t0 d30 _) gk_701 gk_702 gk_703 o_t0 (by decide) rfl rfl rfl ⟨(Nat.le_trans (m := 7) (Nat.le_of_ble_eq_true rfl) hR.1), (Nat.le_trans (m := 141) (Nat.le_of_ble_eq_true rfl) hR.2)⟩ ⟨Nat.zero_le _, Nat.zero_le _⟩ rfl rfl (Nat.le_of_ble_eq_true rfl) gd_Desk_speed_2 (fun H locs hW => ?_)
  refine lv_iload_n hx hb gd_Desk_speed_5 rfl (lv_at hl 2 rfl) ?_
  refine lv_if_lt (tgt := 32) hx hb gd_Desk_speed_6 (by decide) (fun c33 => ?_) (fun c33 => ?_)
  · have h := gf_t c33 h
    exact gx_Desk_speed_b32 F C hr hk hR hfl hne hX  u29   hW (lv_sub hl [] rfl) h
  · have h := gf_f c33 h
    refine lv_iload_n hx hb gd_Desk_speed_9 rfl (lv_at hl 2 rfl) ?_
    refine lv_iconst (v := 2) hx hb gd_Desk_speed_10 (by decide) ?_
    refine lv_icmp_gt (tgt := 32) hx hb gd_Desk_speed_11 (by decide) (fun c34 => ?_) (fun c34 => ?_)
    · have h := gf_t c34 h
      exact gx_Desk_speed_b32 F C hr hk hR hfl hne hX  u29   hW (lv_sub hl [] rfl) h
    · have h := gf_f c34 h
      refine lv_iload_n hx hb gd_Desk_speed_14 rfl (lv_at hl 3 rfl) ?_
      refine lv_if_lt (tgt := 32) hx hb gd_Desk_speed_15 (by decide) (fun c35 => ?_) (fun c35 => ?_)
      · have h := gf_t c35 h
        exact gx_Desk_speed_b32 F C hr hk hR hfl hne hX  u29   hW (lv_sub hl [] rfl) h
      · have h := gf_f c35 h
        refine lv_iload_n hx hb gd_Desk_speed_18 rfl (lv_at hl 3 rfl) ?_
        refine lv_iload_n hx hb gd_Desk_speed_19 rfl (lv_at hl 2 rfl) ?_
        refine lv_if_ne (tgt := 27) hx hb gd_Desk_speed_20 (by decide) (fun c36 => ?_) (fun c36 => ?_)
        · have h := gf_f c36 h
          refine lv_bipush (v := 8) hx hb gd_Desk_speed_27 (by decide) ?_
          exact gx_Desk_speed_b29 F C hr hk hR hfl hne hX  u29 t0 x1 x2 x3 x3 8 o_t0 hW (lv_sub hl [0, 1, 2, 3] rfl) h
        · have h := gf_t c36 h
          refine lv_iconst (v := 1) hx hb gd_Desk_speed_23 (by decide) ?_
          refine lv_goto (tgt := 29) hx hb gd_Desk_speed_24 (by decide) ?_
          exact gx_Desk_speed_b29 F C hr hk hR hfl hne hX  u29 t0 x1 x2 x3 x3 1 o_t0 hW (lv_sub hl [0, 1, 2, 3] rfl) h

set_option maxRecDepth 20000 in
theorem gc_Desk_speed (l : Launch) (hfl : l.flags = pinnedFlags ++ [noTraceFlag]) {D : va_G} {cA : Nat → ClassId} {hs : Nat → Nat} {z : gw_Sh} (F : Nat) {u w : gw_St} {v : Int32} {t0 : Nat} {x1 : Int32} {x2 : Int32} {x3 : Int32} (o_t0 : gw_ok z t0 0) (h : gf_Desk_speed F z u t0 x1 x2 x3 = some (.inl v, w)) (sz : Nat) : gw_Mi l gy_Desk_speed gb_Desk_speed 5 (some .int) (gw_rm 7 141) [.ref (hs t0), .int x1, .int x2, .int x3] D cA hs z u sz (v, w) := by
  refine xt_enter0 (by decide) (Nat.le_of_ble_eq_true rfl) ?_
  intro p e s m below meth c ls hsz C hW hr hk hne hl
  subst hsz
  exact gx_Desk_speed_b0 (e := e) (hs := hs) (z := z) (R := gw_rm 7 141) (r0 := (.inl v, w)) F C hr hk ⟨Nat.le_refl _, Nat.le_refl _⟩ hfl hne trivial u t0 x1 x2 x3 o_t0 hW (lv_sub hl [0, 1, 2, 3] rfl) h
set_option maxRecDepth 20000 in
theorem gt_Desk_speed (l : Launch) (hfl : l.flags = pinnedFlags ++ [noTraceFlag]) {D : va_G} {cA : Nat → ClassId} {hs : Nat → Nat} {z : gw_Sh} (F : Nat) {u w : gw_St} {k : Nat} {t0 : Nat} {x1 : Int32} {x2 : Int32} {x3 : Int32} (o_t0 : gw_ok z t0 0) (h : gf_Desk_speed F z u t0 x1 x2 x3 = some (.inr k, w)) (sz : Nat) : gw_Mt l gy_Desk_speed gb_Desk_speed 5 (some .int) (xt_rm 7 141) [.ref (hs t0), .int x1, .int x2, .int x3] D cA hs z u sz k w := by
  refine xt_enter hfl (by decide) (Nat.le_of_ble_eq_true rfl) ?_
  intro p e s m below meth c ls hsz C hW hr hk hne hZ htr hl
  exact gx_Desk_speed_b0 (e := e) (hs := hs) (z := z) (R := xt_rm 7 141) (r0 := (.inr k, w)) F C hr hk ⟨Nat.le_refl _, Nat.le_refl _⟩ hfl hne ⟨htr, hZ, Nat.le_refl _, Nat.le_refl _⟩ u t0 x1 x2 x3 o_t0 hW (lv_sub hl [0, 1, 2, 3] rfl) h
-- GearDesk.dial(III)I
theorem gk_754 : Cond.constant R_Desk 198 100000 ∈ gt_T := gt_m5 (List.mem_of_getElem? (i := 211) rfl) rfl
theorem gk_755 : Cond.fieldLink R_Desk 46 R_Desk "dialDivisions" "[I" ∈ gt_T := gt_m2 (List.mem_of_getElem? (i := 100) rfl) rfl
def gy_Desk_dial : MethodName := ⟨R_Desk, "dial", "(III)I"⟩
abbrev gb_Desk_dial : ByteArray := prog_1_method_17_code
theorem gk_756 : Cond.code gy_Desk_dial gb_Desk_dial 5 (some .int) ∈ gt_T := gt_m5 (List.mem_of_getElem? (i := 210) rfl) rfl
theorem gm_Desk_dial : gw_Mth gy_Desk_dial gb_Desk_dial 5 (some .int) 3 := ⟨gk_756, gk_361, ⟨by decide +kernel, by decide +kernel⟩, by decide +kernel⟩
theorem gd_Desk_dial_0 : decode gb_Desk_dial 0 = .ok (.iload_n 1, 1) := by decide +kernel
theorem gd_Desk_dial_1 : decode gb_Desk_dial 1 = .ok (.ifCond .lt 9, 3) := by decide +kernel
theorem gd_Desk_dial_4 : decode gb_Desk_dial 4 = .ok (.iload_n 1, 1) := by decide +kernel
theorem gd_Desk_dial_5 : decode gb_Desk_dial 5 = .ok (.bipush 12, 2) := by decide +kernel
theorem gd_Desk_dial_7 : decode gb_Desk_dial 7 = .ok (.if_icmp .lt 11, 3) := by decide +kernel
theorem gd_Desk_dial_10 : decode gb_Desk_dial 10 = .ok (.new 117, 3) := by decide +kernel
theorem gd_Desk_dial_13 : decode gb_Desk_dial 13 = .ok (.dup, 1) := by decide +kernel
theorem gd_Desk_dial_14 : decode gb_Desk_dial 14 = .ok (.invokespecial 119, 3) := by decide +kernel
theorem gd_Desk_dial_17 : decode gb_Desk_dial 17 = .ok (.athrow, 1) := by decide +kernel
theorem gd_Desk_dial_18 : decode gb_Desk_dial 18 = .ok (.aload_n 0, 1) := by decide +kernel
theorem gd_Desk_dial_19 : decode gb_Desk_dial 19 = .ok (.iload_n 2, 1) := by decide +kernel
theorem gd_Desk_dial_20 : decode gb_Desk_dial 20 = .ok (.invokevirtual 149, 3) := by decide +kernel
theorem gd_Desk_dial_23 : decode gb_Desk_dial 23 = .ok (.iload_n 3, 1) := by decide +kernel
theorem gd_Desk_dial_24 : decode gb_Desk_dial 24 = .ok (.iconst 1, 1) := by decide +kernel
theorem gd_Desk_dial_25 : decode gb_Desk_dial 25 = .ok (.if_icmp .lt 9, 3) := by decide +kernel
theorem gd_Desk_dial_28 : decode gb_Desk_dial 28 = .ok (.iload_n 3, 1) := by decide +kernel
theorem gd_Desk_dial_29 : decode gb_Desk_dial 29 = .ok (.ldc 198, 2) := by decide +kernel
theorem gd_Desk_dial_31 : decode gb_Desk_dial 31 = .ok (.if_icmp .le 11, 3) := by decide +kernel
theorem gd_Desk_dial_34 : decode gb_Desk_dial 34 = .ok (.new 88, 3) := by decide +kernel
theorem gd_Desk_dial_37 : decode gb_Desk_dial 37 = .ok (.dup, 1) := by decide +kernel
theorem gd_Desk_dial_38 : decode gb_Desk_dial 38 = .ok (.invokespecial 90, 3) := by decide +kernel
theorem gd_Desk_dial_41 : decode gb_Desk_dial 41 = .ok (.athrow, 1) := by decide +kernel
theorem gd_Desk_dial_42 : decode gb_Desk_dial 42 = .ok (.aload_n 0, 1) := by decide +kernel
theorem gd_Desk_dial_43 : decode gb_Desk_dial 43 = .ok (.getfield 42, 3) := by decide +kernel
theorem gd_Desk_dial_46 : decode gb_Desk_dial 46 = .ok (.iload_n 1, 1) := by decide +kernel
theorem gd_Desk_dial_47 : decode gb_Desk_dial 47 = .ok (.iaload, 1) := by decide +kernel
theorem gd_Desk_dial_48 : decode gb_Desk_dial 48 = .ok (.istore 4, 2) := by decide +kernel
theorem gd_Desk_dial_50 : decode gb_Desk_dial 50 = .ok (.aload_n 0, 1) := by decide +kernel
theorem gd_Desk_dial_51 : decode gb_Desk_dial 51 = .ok (.getfield 42, 3) := by decide +kernel
theorem gd_Desk_dial_54 : decode gb_Desk_dial 54 = .ok (.iload_n 1, 1) := by decide +kernel
theorem gd_Desk_dial_55 : decode gb_Desk_dial 55 = .ok (.iload_n 2, 1) := by decide +kernel
theorem gd_Desk_dial_56 : decode gb_Desk_dial 56 = .ok (.iastore, 1) := by decide +kernel
theorem gd_Desk_dial_57 : decode gb_Desk_dial 57 = .ok (.aload_n 0, 1) := by decide +kernel
theorem gd_Desk_dial_58 : decode gb_Desk_dial 58 = .ok (.getfield 46, 3) := by decide +kernel
theorem gd_Desk_dial_61 : decode gb_Desk_dial 61 = .ok (.iload_n 1, 1) := by decide +kernel
theorem gd_Desk_dial_62 : decode gb_Desk_dial 62 = .ok (.iload_n 3, 1) := by decide +kernel
theorem gd_Desk_dial_63 : decode gb_Desk_dial 63 = .ok (.iastore, 1) := by decide +kernel
theorem gd_Desk_dial_64 : decode gb_Desk_dial 64 = .ok (.iload 4, 2) := by decide +kernel
theorem gd_Desk_dial_66 : decode gb_Desk_dial 66 = .ok (.ireturn, 1) := by decide +kernel
def gf_Desk_dial_b10 (F : Nat) (z : gw_Sh)  (u : gw_St)  : Option ((Int32 ⊕ Nat) × gw_St) :=
  some (.inr 3, u)
def gf_Desk_dial_b34 (F : Nat) (z : gw_Sh)  (u : gw_St)  : Option ((Int32 ⊕ Nat) × gw_St) :=
  some (.inr 1, u)
def gf_Desk_dial_b0 (F : Nat) (z : gw_Sh)  (u : gw_St) (t0 : Nat) (x1 : Int32) (x2 : Int32) (x3 : Int32) : Option ((Int32 ⊕ Nat) × gw_St) :=
  if x1 < 0 then (gf_Desk_dial_b10 F z  u ) else (if x1 < (12 : Int32) then (gf_ct (gf_Desk_needGear F z u t0 x2) fun a5 u3 => if x3 < (1 : Int32) then (gf_Desk_dial_b34 F z  u3 ) else (if x3 ≤ (100000 : Int32) then (gf_nn (u3.2.2 t0 4) fun q9 => if (x1 < 0 ∨ z.2.2 q9 ≤ (x1).toNatClampNeg) then none else gf_nm (u3.1 q9 (x1).toNatClampNeg) fun a12 => gf_nn (u3.2.2 t0 4) fun q14 => if (x1 < 0 ∨ z.2.2 q14 ≤ (x1).toNatClampNeg) then none else gf_nm (gw_wi u3 q14 (x1).toNatClampNeg x2) fun u17 => gf_nn (u17.2.2 t0 5) fun q19 => if (x1 < 0 ∨ z.2.2 q19 ≤ (x1).toNatClampNeg) then none else gf_nm (gw_wi u17 q19 (x1).toNatClampNeg x3) fun u22 => some (.inl a12, u22)) else (gf_Desk_dial_b34 F z  u3 ))) else (gf_Desk_dial_b10 F z  u ))
def gf_Desk_dial (F : Nat) (z : gw_Sh) (u : gw_St) (t0 : Nat) (x1 : Int32) (x2 : Int32) (x3 : Int32) : Option ((Int32 ⊕ Nat) × gw_St) := gf_Desk_dial_b0 F z  u t0 x1 x2 x3
set_option maxHeartbeats 4000000 in
set_option maxRecDepth 20000 in
theorem gx_Desk_dial_b10 {p : Program} {l : Launch} {e : Env} {s : State} {m : MethodId} {args : Array Value} {below : List Frame} {meth : Method} {c : Code} {D : va_G} {cA : Nat → ClassId} {hs : Nat → Nat} {z : gw_Sh} (F : Nat) {r0 : ((Int32 ⊕ Nat) × gw_St)} (C : gw_Cx p s m args c gb_Desk_dial 5 R_Desk D cA) (hr : meth.sig.returnType = (some .int)) (hk : meth.locks = false) {R : Room} (hR : 7 ≤ R.frames ∧ 141 ≤ R.locals) (hfl : l.flags = pinnedFlags ++ [noTraceFlag]) (hne : c.exceptionTable.isEmpty = true) (hX : xt_Ok e s R hs z r0) (u : gw_St)   {H : Heap} {locs : List Loc} {ls : Array Slot} (hW : gw_Wx D cA hs z s u H locs) (hl : lv_has ls 5 []) (h : gf_Desk_dial_b10 F z   u  = some r0) : gw_Ti p l e R s m args below meth c D cA hs z r0 H locs ls 10 [] := by
  obtain ⟨hx, hb, hml, hown, hts, hK⟩ := id C
  unfold gf_Desk_dial_b10 at h
  obtain rfl := Option.some.inj h
  have hX9 : e.platform.stackTraces = false ∧ xt_Zs (gw_A hs z s.heap.size) s s.heap ∧ 1 ≤ R.cells ∧ 6 ≤ R.slots := hX
  exact xt_throw (k := 3) C hW (fun _ h => Or.inr h) hX9.2.1 hX9.1 hl.1 hk (xt_out hne _) (by decide +kernel) xa_3 gk_680 gk_681 gk_682 gd_Desk_dial_10 gd_Desk_dial_13 gd_Desk_dial_14 gd_Desk_dial_17 (Nat.le_trans (m := 7) (Nat.le_of_ble_eq_true rfl) hR.1) (Nat.le_trans (m := 141) (Nat.le_of_ble_eq_true rfl) hR.2) hX9.2.2.1 hX9.2.2.2

set_option maxHeartbeats 4000000 in
set_option maxRecDepth 20000 in
theorem gx_Desk_dial_b34 {p : Program} {l : Launch} {e : Env} {s : State} {m : MethodId} {args : Array Value} {below : List Frame} {meth : Method} {c : Code} {D : va_G} {cA : Nat → ClassId} {hs : Nat → Nat} {z : gw_Sh} (F : Nat) {r0 : ((Int32 ⊕ Nat) × gw_St)} (C : gw_Cx p s m args c gb_Desk_dial 5 R_Desk D cA) (hr : meth.sig.returnType = (some .int)) (hk : meth.locks = false) {R : Room} (hR : 7 ≤ R.frames ∧ 141 ≤ R.locals) (hfl : l.flags = pinnedFlags ++ [noTraceFlag]) (hne : c.exceptionTable.isEmpty = true) (hX : xt_Ok e s R hs z r0) (u : gw_St)   {H : Heap} {locs : List Loc} {ls : Array Slot} (hW : gw_Wx D cA hs z s u H locs) (hl : lv_has ls 5 []) (h : gf_Desk_dial_b34 F z   u  = some r0) : gw_Ti p l e R s m args below meth c D cA hs z r0 H locs ls 34 [] := by
  obtain ⟨hx, hb, hml, hown, hts, hK⟩ := id C
  unfold gf_Desk_dial_b34 at h
  obtain rfl := Option.some.inj h
  have hX9 : e.platform.stackTraces = false ∧ xt_Zs (gw_A hs z s.heap.size) s s.heap ∧ 1 ≤ R.cells ∧ 6 ≤ R.slots := hX
  exact xt_throw (k := 1) C hW (fun _ h => Or.inr h) hX9.2.1 hX9.1 hl.1 hk (xt_out hne _) (by decide +kernel) xa_1 gk_659 gk_660 gk_661 gd_Desk_dial_34 gd_Desk_dial_37 gd_Desk_dial_38 gd_Desk_dial_41 (Nat.le_trans (m := 7) (Nat.le_of_ble_eq_true rfl) hR.1) (Nat.le_trans (m := 141) (Nat.le_of_ble_eq_true rfl) hR.2) hX9.2.2.1 hX9.2.2.2

set_option maxHeartbeats 4000000 in
set_option maxRecDepth 20000 in
theorem gx_Desk_dial_b0 {p : Program} {l : Launch} {e : Env} {s : State} {m : MethodId} {args : Array Value} {below : List Frame} {meth : Method} {c : Code} {D : va_G} {cA : Nat → ClassId} {hs : Nat → Nat} {z : gw_Sh} (F : Nat) {r0 : ((Int32 ⊕ Nat) × gw_St)} (C : gw_Cx p s m args c gb_Desk_dial 5 R_Desk D cA) (hr : meth.sig.returnType = (some .int)) (hk : meth.locks = false) {R : Room} (hR : 7 ≤ R.frames ∧ 141 ≤ R.locals) (hfl : l.flags = pinnedFlags ++ [noTraceFlag]) (hne : c.exceptionTable.isEmpty = true) (hX : xt_Ok e s R hs z r0) (u : gw_St) (t0 : Nat) (x1 : Int32) (x2 : Int32) (x3 : Int32) (o_t0 : gw_ok z t0 0) {H : Heap} {locs : List Loc} {ls : Array Slot} (hW : gw_Wx D cA hs z s u H locs) (hl : lv_has ls 5 [(0, .ref (hs t0)), (1, .int x1), (2, .int x2), (3, .int x3)]) (h : gf_Desk_dial_b0 F z   u t0 x1 x2 x3 = some r0) : gw_Ti p l e R s m args below meth c D cA hs z r0 H locs ls 0 [] := by
  obtain ⟨hx, hb, hml, hown, hts, hK⟩ := id C
  unfold gf_Desk_dial_b0 at h
  refine lv_iload_n hx hb gd_Desk_dial_0 rfl (lv_at hl 1 rfl) ?_
  refine lv_if_lt (tgt := 10) hx hb gd_Desk_dial_1 (by decide) (fun c1 => ?_) (fun c1 => ?_)
  · have h := gf_t c1 h
    exact gx_Desk_dial_b10 F C hr hk hR hfl hne hX  u   hW (lv_sub hl [] rfl) h
  · have h := gf_f c1 h
    refine lv_iload_n hx hb gd_Desk_dial_4 rfl (lv_at hl 1 rfl) ?_
    refine lv_bipush (v := 12) hx hb gd_Desk_dial_5 (by decide) ?_
    refine lv_icmp_lt (tgt := 18) hx hb gd_Desk_dial_7 (by decide) (fun c2 => ?_) (fun c2 => ?_)
    · have h := gf_t c2 h
      refine lv_aload_n hx hb gd_Desk_dial_18 rfl (lv_at hl 0 rfl) ?_
      refine lv_iload_n hx hb gd_Desk_dial_19 rfl (lv_at hl 2 rfl) ?_
      rcases gf_ct_ok h with ⟨k6, u3, d4, rfl⟩ | ⟨a5, u3, d4, h⟩
      · have hX9 : e.platform.stackTraces = false ∧ xt_Zs (gw_A hs z s.heap.size) s s.heap ∧ 1 ≤ R.cells ∧ 6 ≤ R.slots := hX
        exact xt_prop (K := R_Desk) (As := [.int x2]) (rest := []) C hW (fun _ h => Or.inr h) hX9.2.1 hl.1 hk hne gm_Desk_needGear (gt_Desk_needGear l hfl F o_t0 d4 _) gk_701 gk_702 gk_703 o_t0 (by decide) rfl rfl rfl ⟨(Nat.le_trans (m := 7) (Nat.le_of_ble_eq_true rfl) hR.1), (Nat.le_trans (m := 141) (Nat.le_of_ble_eq_true rfl) hR.2)⟩ hX9.2.2 rfl rfl (Nat.le_of_ble_eq_true rfl) gd_Desk_dial_20
      refine gw_callVv (K := R_Desk) (As := [.int x2]) (rest := []) C hW (fun _ h => Or.inr h) hl.1 gm_Desk_needGear (gc_Desk_needGear l hfl F o_t0 d4 _) gk_701 gk_702 gk_703 o_t0 (by decide) rfl rfl rfl ⟨(Nat.le_trans (m := 7) (Nat.le_of_ble_eq_true rfl) hR.1), (Nat.le_trans (m := 141) (Nat.le_of_ble_eq_true rfl) hR.2)⟩ ⟨Nat.zero_le _, Nat.zero_le _⟩ rfl rfl (Nat.le_of_ble_eq_true rfl) gd_Desk_dial_20 (fun H locs hW => ?_)
      refine lv_iload_n hx hb gd_Desk_dial_23 rfl (lv_at hl 3 rfl) ?_
      refine lv_iconst (v := 1) hx hb gd_Desk_dial_24 (by decide) ?_
      refine lv_icmp_lt (tgt := 34) hx hb gd_Desk_dial_25 (by decide) (fun c7 => ?_) (fun c7 => ?_)
      · have h := gf_t c7 h
        exact gx_Desk_dial_b34 F C hr hk hR hfl hne hX  u3   hW (lv_sub hl [] rfl) h
      · have h := gf_f c7 h
        refine lv_iload_n hx hb gd_Desk_dial_28 rfl (lv_at hl 3 rfl) ?_
        refine lv_ldc (v := 100000) hx hb hown (hts _ gk_754) gd_Desk_dial_29 ?_
        refine lv_icmp_le (tgt := 42) hx hb gd_Desk_dial_31 (by decide) (fun c8 => ?_) (fun c8 => ?_)
        · have h := gf_t c8 h
          refine lv_aload_n hx hb gd_Desk_dial_42 rfl (lv_at hl 0 rfl) ?_
          obtain ⟨q9, e10, h⟩ := gf_nn_ok h
          refine gw_getr (k := 4) (ty := 10) (ref := R_Desk) C hW o_t0 (by decide) rfl gi_Desk rfl (by decide) rfl rfl gk_359 gd_Desk_dial_43 e10 ?_
          have o_q9 := hW.ref (d := 10) o_t0 e10 rfl
          refine lv_iload_n hx hb gd_Desk_dial_46 rfl (lv_at hl 1 rfl) ?_
          obtain ⟨g11, h⟩ := gf_if_ok h
          refine gw_iald C hW o_q9 g11 gd_Desk_dial_47 ?_
          refine lv_topi (fun a12 e13 => ?_)
          have h := gf_nm_ok e13 h
          refine lv_istore (lv' := [(4, .int a12), (0, .ref (hs t0)), (1, .int x1), (2, .int x2), (3, .int x3)]) hx hb gd_Desk_dial_48 hl (by decide) rfl (fun ls hl => ?_)
          refine lv_aload_n hx hb gd_Desk_dial_50 rfl (lv_at hl 1 rfl) ?_
          obtain ⟨q14, e15, h⟩ := gf_nn_ok h
          refine gw_getr (k := 4) (ty := 10) (ref := R_Desk) C hW o_t0 (by decide) rfl gi_Desk rfl (by decide) rfl rfl gk_359 gd_Desk_dial_51 e15 ?_
          have o_q14 := hW.ref (d := 10) o_t0 e15 rfl
          refine lv_iload_n hx hb gd_Desk_dial_54 rfl (lv_at hl 2 rfl) ?_
          refine lv_iload_n hx hb gd_Desk_dial_55 rfl (lv_at hl 3 rfl) ?_
          obtain ⟨g16, h⟩ := gf_if_ok h
          refine gw_iast C hW o_q14 g16 gd_Desk_dial_56 (fun u17 H locs e18 hW => ?_)
          have h := gf_nm_ok e18 h
          refine lv_aload_n hx hb gd_Desk_dial_57 rfl (lv_at hl 1 rfl) ?_
          obtain ⟨q19, e20, h⟩ := gf_nn_ok h
          refine gw_getr (k := 5) (ty := 10) (ref := R_Desk) C hW o_t0 (by decide) rfl gi_Desk rfl (by decide) rfl rfl gk_755 gd_Desk_dial_58 e20 ?_
          have o_q19 := hW.ref (d := 10) o_t0 e20 rfl
          refine lv_iload_n hx hb gd_Desk_dial_61 rfl (lv_at hl 2 rfl) ?_
          refine lv_iload_n hx hb gd_Desk_dial_62 rfl (lv_at hl 4 rfl) ?_
          obtain ⟨g21, h⟩ := gf_if_ok h
          refine gw_iast C hW o_q19 g21 gd_Desk_dial_63 (fun u22 H locs e23 hW => ?_)
          have h := gf_nm_ok e23 h
          refine lv_iload hx hb gd_Desk_dial_64 (lv_at hl 0 rfl) ?_
          obtain rfl := Option.some.inj h
          exact gw_iret C hW hr hk gd_Desk_dial_66
        · have h := gf_f c8 h
          exact gx_Desk_dial_b34 F C hr hk hR hfl hne hX  u3   hW (lv_sub hl [] rfl) h
    · have h := gf_f c2 h
      exact gx_Desk_dial_b10 F C hr hk hR hfl hne hX  u   hW (lv_sub hl [] rfl) h

set_option maxRecDepth 20000 in
theorem gc_Desk_dial (l : Launch) (hfl : l.flags = pinnedFlags ++ [noTraceFlag]) {D : va_G} {cA : Nat → ClassId} {hs : Nat → Nat} {z : gw_Sh} (F : Nat) {u w : gw_St} {v : Int32} {t0 : Nat} {x1 : Int32} {x2 : Int32} {x3 : Int32} (o_t0 : gw_ok z t0 0) (h : gf_Desk_dial F z u t0 x1 x2 x3 = some (.inl v, w)) (sz : Nat) : gw_Mi l gy_Desk_dial gb_Desk_dial 5 (some .int) (gw_rm 7 141) [.ref (hs t0), .int x1, .int x2, .int x3] D cA hs z u sz (v, w) := by
  refine xt_enter0 (by decide) (Nat.le_of_ble_eq_true rfl) ?_
  intro p e s m below meth c ls hsz C hW hr hk hne hl
  subst hsz
  exact gx_Desk_dial_b0 (e := e) (hs := hs) (z := z) (R := gw_rm 7 141) (r0 := (.inl v, w)) F C hr hk ⟨Nat.le_refl _, Nat.le_refl _⟩ hfl hne trivial u t0 x1 x2 x3 o_t0 hW (lv_sub hl [0, 1, 2, 3] rfl) h
set_option maxRecDepth 20000 in
theorem gt_Desk_dial (l : Launch) (hfl : l.flags = pinnedFlags ++ [noTraceFlag]) {D : va_G} {cA : Nat → ClassId} {hs : Nat → Nat} {z : gw_Sh} (F : Nat) {u w : gw_St} {k : Nat} {t0 : Nat} {x1 : Int32} {x2 : Int32} {x3 : Int32} (o_t0 : gw_ok z t0 0) (h : gf_Desk_dial F z u t0 x1 x2 x3 = some (.inr k, w)) (sz : Nat) : gw_Mt l gy_Desk_dial gb_Desk_dial 5 (some .int) (xt_rm 7 141) [.ref (hs t0), .int x1, .int x2, .int x3] D cA hs z u sz k w := by
  refine xt_enter hfl (by decide) (Nat.le_of_ble_eq_true rfl) ?_
  intro p e s m below meth c ls hsz C hW hr hk hne hZ htr hl
  exact gx_Desk_dial_b0 (e := e) (hs := hs) (z := z) (R := xt_rm 7 141) (r0 := (.inr k, w)) F C hr hk ⟨Nat.le_refl _, Nat.le_refl _⟩ hfl hne ⟨htr, hZ, Nat.le_refl _, Nat.le_refl _⟩ u t0 x1 x2 x3 o_t0 hW (lv_sub hl [0, 1, 2, 3] rfl) h
-- GearDesk.needDial(I)V
def gy_Desk_needDial : MethodName := ⟨R_Desk, "needDial", "(I)V"⟩
abbrev gb_Desk_needDial : ByteArray := prog_1_method_30_code
theorem gk_757 : Cond.code gy_Desk_needDial gb_Desk_needDial 2 none ∈ gt_T := gt_m5 (List.mem_of_getElem? (i := 222) rfl) rfl
theorem gm_Desk_needDial : gw_Mth gy_Desk_needDial gb_Desk_needDial 2 none 1 := ⟨gk_757, gk_361, ⟨by decide +kernel, by decide +kernel⟩, by decide +kernel⟩
theorem gd_Desk_needDial_0 : decode gb_Desk_needDial 0 = .ok (.iload_n 1, 1) := by decide +kernel
theorem gd_Desk_needDial_1 : decode gb_Desk_needDial 1 = .ok (.ifCond .lt 19, 3) := by decide +kernel
theorem gd_Desk_needDial_4 : decode gb_Desk_needDial 4 = .ok (.iload_n 1, 1) := by decide +kernel
theorem gd_Desk_needDial_5 : decode gb_Desk_needDial 5 = .ok (.bipush 12, 2) := by decide +kernel
theorem gd_Desk_needDial_7 : decode gb_Desk_needDial 7 = .ok (.if_icmp .ge 13, 3) := by decide +kernel
theorem gd_Desk_needDial_10 : decode gb_Desk_needDial 10 = .ok (.aload_n 0, 1) := by decide +kernel
theorem gd_Desk_needDial_11 : decode gb_Desk_needDial 11 = .ok (.getfield 42, 3) := by decide +kernel
theorem gd_Desk_needDial_14 : decode gb_Desk_needDial 14 = .ok (.iload_n 1, 1) := by decide +kernel
theorem gd_Desk_needDial_15 : decode gb_Desk_needDial 15 = .ok (.iaload, 1) := by decide +kernel
theorem gd_Desk_needDial_16 : decode gb_Desk_needDial 16 = .ok (.iconst (-1), 1) := by decide +kernel
theorem gd_Desk_needDial_17 : decode gb_Desk_needDial 17 = .ok (.if_icmp .ne 11, 3) := by decide +kernel
theorem gd_Desk_needDial_20 : decode gb_Desk_needDial 20 = .ok (.new 117, 3) := by decide +kernel
theorem gd_Desk_needDial_23 : decode gb_Desk_needDial 23 = .ok (.dup, 1) := by decide +kernel
theorem gd_Desk_needDial_24 : decode gb_Desk_needDial 24 = .ok (.invokespecial 119, 3) := by decide +kernel
theorem gd_Desk_needDial_27 : decode gb_Desk_needDial 27 = .ok (.athrow, 1) := by decide +kernel
theorem gd_Desk_needDial_28 : decode gb_Desk_needDial 28 = .ok (.return_, 1) := by decide +kernel
def gf_Desk_needDial_b20 (F : Nat) (z : gw_Sh)  (u : gw_St)  : Option ((Unit ⊕ Nat) × gw_St) :=
  some (.inr 3, u)
def gf_Desk_needDial_b0 (F : Nat) (z : gw_Sh)  (u : gw_St) (t0 : Nat) (x1 : Int32) : Option ((Unit ⊕ Nat) × gw_St) :=
  if x1 < 0 then (gf_Desk_needDial_b20 F z  u ) else (if (12 : Int32) ≤ x1 then (gf_Desk_needDial_b20 F z  u ) else (gf_nn (u.2.2 t0 4) fun q3 => if (x1 < 0 ∨ z.2.2 q3 ≤ (x1).toNatClampNeg) then none else if (u.1 q3 (x1).toNatClampNeg) = (-1 : Int32) then (gf_Desk_needDial_b20 F z  u ) else (some (.inl (), u))))
def gf_Desk_needDial (F : Nat) (z : gw_Sh) (u : gw_St) (t0 : Nat) (x1 : Int32) : Option ((Unit ⊕ Nat) × gw_St) := gf_Desk_needDial_b0 F z  u t0 x1
set_option maxHeartbeats 4000000 in
set_option maxRecDepth 20000 in
theorem gx_Desk_needDial_b20 {p : Program} {l : Launch} {e : Env} {s : State} {m : MethodId} {args : Array Value} {below : List Frame} {meth : Method} {c : Code} {D : va_G} {cA : Nat → ClassId} {hs : Nat → Nat} {z : gw_Sh} (F : Nat) {r0 : ((Unit ⊕ Nat) × gw_St)} (C : gw_Cx p s m args c gb_Desk_needDial 2 R_Desk D cA) (hr : meth.sig.returnType = none) (hk : meth.locks = false) {R : Room} (hR : 6 ≤ R.frames ∧ 120 ≤ R.locals) (hfl : l.flags = pinnedFlags ++ [noTraceFlag]) (hne : c.exceptionTable.isEmpty = true) (hX : xt_Ok e s R hs z r0) (u : gw_St)   {H : Heap} {locs : List Loc} {ls : Array Slot} (hW : gw_Wx D cA hs z s u H locs) (hl : lv_has ls 2 []) (h : gf_Desk_needDial_b20 F z   u  = some r0) : gw_Tv p l e R s m args below meth c D cA hs z r0 H locs ls 20 [] := by
  obtain ⟨hx, hb, hml, hown, hts, hK⟩ := id C
  unfold gf_Desk_needDial_b20 at h
  obtain rfl := Option.some.inj h
  have hX9 : e.platform.stackTraces = false ∧ xt_Zs (gw_A hs z s.heap.size) s s.heap ∧ 1 ≤ R.cells ∧ 6 ≤ R.slots := hX
  exact xt_throw (k := 3) C hW (fun _ h => Or.inr h) hX9.2.1 hX9.1 hl.1 hk (xt_out hne _) (by decide +kernel) xa_3 gk_680 gk_681 gk_682 gd_Desk_needDial_20 gd_Desk_needDial_23 gd_Desk_needDial_24 gd_Desk_needDial_27 (Nat.le_trans (m := 6) (Nat.le_of_ble_eq_true rfl) hR.1) (Nat.le_trans (m := 120) (Nat.le_of_ble_eq_true rfl) hR.2) hX9.2.2.1 hX9.2.2.2

set_option maxHeartbeats 4000000 in
set_option maxRecDepth 20000 in
theorem gx_Desk_needDial_b0 {p : Program} {l : Launch} {e : Env} {s : State} {m : MethodId} {args : Array Value} {below : List Frame} {meth : Method} {c : Code} {D : va_G} {cA : Nat → ClassId} {hs : Nat → Nat} {z : gw_Sh} (F : Nat) {r0 : ((Unit ⊕ Nat) × gw_St)} (C : gw_Cx p s m args c gb_Desk_needDial 2 R_Desk D cA) (hr : meth.sig.returnType = none) (hk : meth.locks = false) {R : Room} (hR : 6 ≤ R.frames ∧ 120 ≤ R.locals) (hfl : l.flags = pinnedFlags ++ [noTraceFlag]) (hne : c.exceptionTable.isEmpty = true) (hX : xt_Ok e s R hs z r0) (u : gw_St) (t0 : Nat) (x1 : Int32) (o_t0 : gw_ok z t0 0) {H : Heap} {locs : List Loc} {ls : Array Slot} (hW : gw_Wx D cA hs z s u H locs) (hl : lv_has ls 2 [(0, .ref (hs t0)), (1, .int x1)]) (h : gf_Desk_needDial_b0 F z   u t0 x1 = some r0) : gw_Tv p l e R s m args below meth c D cA hs z r0 H locs ls 0 [] := by
  obtain ⟨hx, hb, hml, hown, hts, hK⟩ := id C
  unfold gf_Desk_needDial_b0 at h
  refine lv_iload_n hx hb gd_Desk_needDial_0 rfl (lv_at hl 1 rfl) ?_
  refine lv_if_lt (tgt := 20) hx hb gd_Desk_needDial_1 (by decide) (fun c1 => ?_) (fun c1 => ?_)
  · have h := gf_t c1 h
    exact gx_Desk_needDial_b20 F C hr hk hR hfl hne hX  u   hW (lv_sub hl [] rfl) h
  · have h := gf_f c1 h
    refine lv_iload_n hx hb gd_Desk_needDial_4 rfl (lv_at hl 1 rfl) ?_
    refine lv_bipush (v := 12) hx hb gd_Desk_needDial_5 (by decide) ?_
    refine lv_icmp_ge (tgt := 20) hx hb gd_Desk_needDial_7 (by decide) (fun c2 => ?_) (fun c2 => ?_)
    · have h := gf_t c2 h
      exact gx_Desk_needDial_b20 F C hr hk hR hfl hne hX  u   hW (lv_sub hl [] rfl) h
    · have h := gf_f c2 h
      refine lv_aload_n hx hb gd_Desk_needDial_10 rfl (lv_at hl 0 rfl) ?_
      obtain ⟨q3, e4, h⟩ := gf_nn_ok h
      refine gw_getr (k := 4) (ty := 10) (ref := R_Desk) C hW o_t0 (by decide) rfl gi_Desk rfl (by decide) rfl rfl gk_359 gd_Desk_needDial_11 e4 ?_
      have o_q3 := hW.ref (d := 10) o_t0 e4 rfl
      refine lv_iload_n hx hb gd_Desk_needDial_14 rfl (lv_at hl 1 rfl) ?_
      obtain ⟨g5, h⟩ := gf_if_ok h
      refine gw_iald C hW o_q3 g5 gd_Desk_needDial_15 ?_
      refine lv_iconst (v := (-1)) hx hb gd_Desk_needDial_16 (by decide) ?_
      refine lv_icmp_ne (tgt := 28) hx hb gd_Desk_needDial_17 (by decide) (fun c6 => ?_) (fun c6 => ?_)
      · have h := gf_f c6 h
        obtain rfl := Option.some.inj h
        exact gw_vret C hW hr hk gd_Desk_needDial_28
      · have h := gf_t c6 h
        exact gx_Desk_needDial_b20 F C hr hk hR hfl hne hX  u   hW (lv_sub hl [] rfl) h

set_option maxRecDepth 20000 in
theorem gc_Desk_needDial (l : Launch) (hfl : l.flags = pinnedFlags ++ [noTraceFlag]) {D : va_G} {cA : Nat → ClassId} {hs : Nat → Nat} {z : gw_Sh} (F : Nat) {u w : gw_St}  {t0 : Nat} {x1 : Int32} (o_t0 : gw_ok z t0 0) (h : gf_Desk_needDial F z u t0 x1 = some (.inl (), w)) (sz : Nat) : gw_Mv l gy_Desk_needDial gb_Desk_needDial 2 none (gw_rm 6 120) [.ref (hs t0), .int x1] D cA hs z u sz w := by
  refine xt_enter0 (by decide) (Nat.le_of_ble_eq_true rfl) ?_
  intro p e s m below meth c ls hsz C hW hr hk hne hl
  subst hsz
  exact gx_Desk_needDial_b0 (e := e) (hs := hs) (z := z) (R := gw_rm 6 120) (r0 := (.inl (), w)) F C hr hk ⟨Nat.le_refl _, Nat.le_refl _⟩ hfl hne trivial u t0 x1 o_t0 hW (lv_sub hl [0, 1] rfl) h
set_option maxRecDepth 20000 in
theorem gt_Desk_needDial (l : Launch) (hfl : l.flags = pinnedFlags ++ [noTraceFlag]) {D : va_G} {cA : Nat → ClassId} {hs : Nat → Nat} {z : gw_Sh} (F : Nat) {u w : gw_St} {k : Nat} {t0 : Nat} {x1 : Int32} (o_t0 : gw_ok z t0 0) (h : gf_Desk_needDial F z u t0 x1 = some (.inr k, w)) (sz : Nat) : gw_Mt l gy_Desk_needDial gb_Desk_needDial 2 none (xt_rm 6 120) [.ref (hs t0), .int x1] D cA hs z u sz k w := by
  refine xt_enter hfl (by decide) (Nat.le_of_ble_eq_true rfl) ?_
  intro p e s m below meth c ls hsz C hW hr hk hne hZ htr hl
  exact gx_Desk_needDial_b0 (e := e) (hs := hs) (z := z) (R := xt_rm 6 120) (r0 := (.inr k, w)) F C hr hk ⟨Nat.le_refl _, Nat.le_refl _⟩ hfl hne ⟨htr, hZ, Nat.le_refl _, Nat.le_refl _⟩ u t0 x1 o_t0 hW (lv_sub hl [0, 1] rfl) h
-- GearDesk.keepFound()V
theorem gk_758 : Cond.fieldLink R_Desk 38 R_Desk "hands" "LGearDesk$Hands;" ∈ gt_T := gt_m2 (List.mem_of_getElem? (i := 98) rfl) rfl
theorem gk_759 : Cond.fieldLink R_Desk 235 R_Hands "found" "LGearDesk$Fraction;" ∈ gt_T := gt_m2 (List.mem_of_getElem? (i := 39) rfl) rfl
theorem gk_760 : Cond.methodLink R_Desk 238 gy_Fraction_isTooLarge ∈ gt_T := gt_m5 (List.mem_of_getElem? (i := 238) rfl) rfl
theorem gk_761 : Cond.fieldLink R_Desk 54 R_Desk "result" "LGearDesk$Fraction;" ∈ gt_T := gt_m2 (List.mem_of_getElem? (i := 101) rfl) rfl
theorem gk_762 : Cond.methodLink R_Desk 241 gy_Fraction_copyFrom ∈ gt_T := gt_m5 (List.mem_of_getElem? (i := 239) rfl) rfl
def gy_Desk_keepFound : MethodName := ⟨R_Desk, "keepFound", "()V"⟩
abbrev gb_Desk_keepFound : ByteArray := prog_1_method_31_code
theorem gk_763 : Cond.code gy_Desk_keepFound gb_Desk_keepFound 1 none ∈ gt_T := gt_m5 (List.mem_of_getElem? (i := 237) rfl) rfl
theorem gm_Desk_keepFound : gw_Mth gy_Desk_keepFound gb_Desk_keepFound 1 none 0 := ⟨gk_763, gk_361, ⟨by decide +kernel, by decide +kernel⟩, by decide +kernel⟩
theorem gd_Desk_keepFound_0 : decode gb_Desk_keepFound 0 = .ok (.aload_n 0, 1) := by decide +kernel
theorem gd_Desk_keepFound_1 : decode gb_Desk_keepFound 1 = .ok (.getfield 38, 3) := by decide +kernel
theorem gd_Desk_keepFound_4 : decode gb_Desk_keepFound 4 = .ok (.getfield 235, 3) := by decide +kernel
theorem gd_Desk_keepFound_7 : decode gb_Desk_keepFound 7 = .ok (.invokevirtual 238, 3) := by decide +kernel
theorem gd_Desk_keepFound_10 : decode gb_Desk_keepFound 10 = .ok (.ifCond .eq 11, 3) := by decide +kernel
theorem gd_Desk_keepFound_13 : decode gb_Desk_keepFound 13 = .ok (.new 178, 3) := by decide +kernel
theorem gd_Desk_keepFound_16 : decode gb_Desk_keepFound 16 = .ok (.dup, 1) := by decide +kernel
theorem gd_Desk_keepFound_17 : decode gb_Desk_keepFound 17 = .ok (.invokespecial 180, 3) := by decide +kernel
theorem gd_Desk_keepFound_20 : decode gb_Desk_keepFound 20 = .ok (.athrow, 1) := by decide +kernel
theorem gd_Desk_keepFound_21 : decode gb_Desk_keepFound 21 = .ok (.aload_n 0, 1) := by decide +kernel
theorem gd_Desk_keepFound_22 : decode gb_Desk_keepFound 22 = .ok (.getfield 54, 3) := by decide +kernel
theorem gd_Desk_keepFound_25 : decode gb_Desk_keepFound 25 = .ok (.aload_n 0, 1) := by decide +kernel
theorem gd_Desk_keepFound_26 : decode gb_Desk_keepFound 26 = .ok (.getfield 38, 3) := by decide +kernel
theorem gd_Desk_keepFound_29 : decode gb_Desk_keepFound 29 = .ok (.getfield 235, 3) := by decide +kernel
theorem gd_Desk_keepFound_32 : decode gb_Desk_keepFound 32 = .ok (.invokevirtual 241, 3) := by decide +kernel
theorem gd_Desk_keepFound_35 : decode gb_Desk_keepFound 35 = .ok (.return_, 1) := by decide +kernel
def gf_Desk_keepFound_b0 (F : Nat) (z : gw_Sh)  (u : gw_St) (t0 : Nat) : Option ((Unit ⊕ Nat) × gw_St) :=
  gf_nn (u.2.2 t0 3) fun q1 => gf_nn (u.2.2 q1 1) fun q3 => gf_cl (gf_Fraction_isTooLarge F z u q3) fun a7 u5 => if a7 = 0 then (gf_nn (u5.2.2 t0 6) fun q9 => gf_nn (u5.2.2 t0 3) fun q11 => gf_nn (u5.2.2 q11 1) fun q13 => (gf_Fraction_copyFrom F z u5 q9 q13).bind fun u15 => some (.inl (), u15)) else (some (.inr 4, u5))
def gf_Desk_keepFound (F : Nat) (z : gw_Sh) (u : gw_St) (t0 : Nat) : Option ((Unit ⊕ Nat) × gw_St) := gf_Desk_keepFound_b0 F z  u t0
set_option maxHeartbeats 4000000 in
set_option maxRecDepth 20000 in
theorem gx_Desk_keepFound_b0 {p : Program} {l : Launch} {e : Env} {s : State} {m : MethodId} {args : Array Value} {below : List Frame} {meth : Method} {c : Code} {D : va_G} {cA : Nat → ClassId} {hs : Nat → Nat} {z : gw_Sh} (F : Nat) {r0 : ((Unit ⊕ Nat) × gw_St)} (C : gw_Cx p s m args c gb_Desk_keepFound 1 R_Desk D cA) (hr : meth.sig.returnType = none) (hk : meth.locks = false) {R : Room} (hR : 6 ≤ R.frames ∧ 125 ≤ R.locals) (hfl : l.flags = pinnedFlags ++ [noTraceFlag]) (hne : c.exceptionTable.isEmpty = true) (hX : xt_Ok e s R hs z r0) (u : gw_St) (t0 : Nat) (o_t0 : gw_ok z t0 0) {H : Heap} {locs : List Loc} {ls : Array Slot} (hW : gw_Wx D cA hs z s u H locs) (hl : lv_has ls 1 [(0, .ref (hs t0))]) (h : gf_Desk_keepFound_b0 F z   u t0 = some r0) : gw_Tv p l e R s m args below meth c D cA hs z r0 H locs ls 0 [] := by
  obtain ⟨hx, hb, hml, hown, hts, hK⟩ := id C
  unfold gf_Desk_keepFound_b0 at h
  refine lv_aload_n hx hb gd_Desk_keepFound_0 rfl (lv_at hl 0 rfl) ?_
  obtain ⟨q1, e2, h⟩ := gf_nn_ok h
  refine gw_getr (k := 3) (ty := 5) (ref := R_Desk) C hW o_t0 (by decide) rfl gi_Desk rfl (by decide) rfl rfl gk_758 gd_Desk_keepFound_1 e2 ?_
  have o_q1 := hW.ref (d := 5) o_t0 e2 rfl
  obtain ⟨q3, e4, h⟩ := gf_nn_ok h
  refine gw_getr (k := 1) (ty := 6) (ref := R_Hands) C hW o_q1 (by decide) rfl gi_Hands rfl (by decide) rfl rfl gk_759 gd_Desk_keepFound_4 e4 ?_
  have o_q3 := hW.ref (d := 6) o_q1 e4 rfl
  obtain ⟨a7, u5, d6, h⟩ := gf_cl_ok h
  refine gw_callVi (K := R_Fraction) (As := []) (rest := []) C hW (fun _ h => Or.inr h) hl.1 gm_Fraction_isTooLarge (gc_Fraction_isTooLarge l F o_q3 d6 _) gk_760 gk_315 gk_316 o_q3 (by decide) rfl rfl rfl ⟨(Nat.le_trans (m := 6) (Nat.le_of_ble_eq_true rfl) hR.1), (Nat.le_trans (m := 125) (Nat.le_of_ble_eq_true rfl) hR.2)⟩ ⟨Nat.zero_le _, Nat.zero_le _⟩ rfl rfl (Nat.le_of_ble_eq_true rfl) gd_Desk_keepFound_7 (fun H locs hW => ?_)
  refine lv_if_eq (tgt := 21) hx hb gd_Desk_keepFound_10 (by decide) (fun c8 => ?_) (fun c8 => ?_)
  · have h := gf_t c8 h
    refine lv_aload_n hx hb gd_Desk_keepFound_21 rfl (lv_at hl 0 rfl) ?_
    obtain ⟨q9, e10, h⟩ := gf_nn_ok h
    refine gw_getr (k := 6) (ty := 6) (ref := R_Desk) C hW o_t0 (by decide) rfl gi_Desk rfl (by decide) rfl rfl gk_761 gd_Desk_keepFound_22 e10 ?_
    have o_q9 := hW.ref (d := 6) o_t0 e10 rfl
    refine lv_aload_n hx hb gd_Desk_keepFound_25 rfl (lv_at hl 0 rfl) ?_
    obtain ⟨q11, e12, h⟩ := gf_nn_ok h
    refine gw_getr (k := 3) (ty := 5) (ref := R_Desk) C hW o_t0 (by decide) rfl gi_Desk rfl (by decide) rfl rfl gk_758 gd_Desk_keepFound_26 e12 ?_
    have o_q11 := hW.ref (d := 5) o_t0 e12 rfl
    obtain ⟨q13, e14, h⟩ := gf_nn_ok h
    refine gw_getr (k := 1) (ty := 6) (ref := R_Hands) C hW o_q11 (by decide) rfl gi_Hands rfl (by decide) rfl rfl gk_759 gd_Desk_keepFound_29 e14 ?_
    have o_q13 := hW.ref (d := 6) o_q11 e14 rfl
    obtain ⟨u15, d16, h⟩ := gf_bd_ok h
    refine gw_callVv (K := R_Fraction) (As := [.ref (hs q13)]) (rest := []) C hW (fun _ h => Or.inr h) hl.1 gm_Fraction_copyFrom (gc_Fraction_copyFrom l F o_q9 o_q13 d16 _) gk_762 gk_319 gk_320 o_q9 (by decide) rfl rfl rfl ⟨(Nat.le_trans (m := 6) (Nat.le_of_ble_eq_true rfl) hR.1), (Nat.le_trans (m := 125) (Nat.le_of_ble_eq_true rfl) hR.2)⟩ ⟨Nat.zero_le _, Nat.zero_le _⟩ rfl rfl (Nat.le_of_ble_eq_true rfl) gd_Desk_keepFound_32 (fun H locs hW => ?_)
    obtain rfl := Option.some.inj h
    exact gw_vret C hW hr hk gd_Desk_keepFound_35
  · have h := gf_f c8 h
    obtain rfl := Option.some.inj h
    have hX9 : e.platform.stackTraces = false ∧ xt_Zs (gw_A hs z s.heap.size) s s.heap ∧ 1 ≤ R.cells ∧ 6 ≤ R.slots := hX
    exact xt_throw (k := 4) C hW (fun _ h => Or.inr h) hX9.2.1 hX9.1 hl.1 hk (xt_out hne _) (by decide +kernel) xa_4 gk_740 gk_741 gk_742 gd_Desk_keepFound_13 gd_Desk_keepFound_16 gd_Desk_keepFound_17 gd_Desk_keepFound_20 (Nat.le_trans (m := 6) (Nat.le_of_ble_eq_true rfl) hR.1) (Nat.le_trans (m := 125) (Nat.le_of_ble_eq_true rfl) hR.2) hX9.2.2.1 hX9.2.2.2

set_option maxRecDepth 20000 in
theorem gc_Desk_keepFound (l : Launch) (hfl : l.flags = pinnedFlags ++ [noTraceFlag]) {D : va_G} {cA : Nat → ClassId} {hs : Nat → Nat} {z : gw_Sh} (F : Nat) {u w : gw_St}  {t0 : Nat} (o_t0 : gw_ok z t0 0) (h : gf_Desk_keepFound F z u t0 = some (.inl (), w)) (sz : Nat) : gw_Mv l gy_Desk_keepFound gb_Desk_keepFound 1 none (gw_rm 6 125) [.ref (hs t0)] D cA hs z u sz w := by
  refine xt_enter0 (by decide) (Nat.le_of_ble_eq_true rfl) ?_
  intro p e s m below meth c ls hsz C hW hr hk hne hl
  subst hsz
  exact gx_Desk_keepFound_b0 (e := e) (hs := hs) (z := z) (R := gw_rm 6 125) (r0 := (.inl (), w)) F C hr hk ⟨Nat.le_refl _, Nat.le_refl _⟩ hfl hne trivial u t0 o_t0 hW (lv_sub hl [0] rfl) h
set_option maxRecDepth 20000 in
theorem gt_Desk_keepFound (l : Launch) (hfl : l.flags = pinnedFlags ++ [noTraceFlag]) {D : va_G} {cA : Nat → ClassId} {hs : Nat → Nat} {z : gw_Sh} (F : Nat) {u w : gw_St} {k : Nat} {t0 : Nat} (o_t0 : gw_ok z t0 0) (h : gf_Desk_keepFound F z u t0 = some (.inr k, w)) (sz : Nat) : gw_Mt l gy_Desk_keepFound gb_Desk_keepFound 1 none (xt_rm 6 125) [.ref (hs t0)] D cA hs z u sz k w := by
  refine xt_enter hfl (by decide) (Nat.le_of_ble_eq_true rfl) ?_
  intro p e s m below meth c ls hsz C hW hr hk hne hZ htr hl
  exact gx_Desk_keepFound_b0 (e := e) (hs := hs) (z := z) (R := xt_rm 6 125) (r0 := (.inr k, w)) F C hr hk ⟨Nat.le_refl _, Nat.le_refl _⟩ hfl hne ⟨htr, hZ, Nat.le_refl _, Nat.le_refl _⟩ u t0 o_t0 hW (lv_sub hl [0] rfl) h
-- GearDesk.position(III)I
theorem gk_764 : Cond.methodLink R_Desk 199 gy_Desk_needDial ∈ gt_T := gt_m5 (List.mem_of_getElem? (i := 219) rfl) rfl
theorem gk_765 : Cond.instanceMethod gy_Desk_needDial ∈ gt_T := gt_m5 (List.mem_of_getElem? (i := 221) rfl) rfl
theorem gk_766 : Cond.selects R_Desk gy_Desk_needDial gy_Desk_needDial ∈ gt_T := gt_p2 (List.mem_of_getElem? (i := 14) rfl) rfl
theorem gk_767 : Cond.methodLink R_Desk 202 gy_Hands_point ∈ gt_T := gt_m5 (List.mem_of_getElem? (i := 223) rfl) rfl
theorem gk_768 : Cond.instanceMethod gy_Hands_point ∈ gt_T := gt_m5 (List.mem_of_getElem? (i := 224) rfl) rfl
theorem gk_769 : Cond.selects R_Hands gy_Hands_point gy_Hands_point ∈ gt_T := gt_m5 (List.mem_of_getElem? (i := 225) rfl) rfl
theorem gk_770 : Cond.methodLink R_Desk 206 gy_Desk_keepFound ∈ gt_T := gt_m5 (List.mem_of_getElem? (i := 234) rfl) rfl
theorem gk_771 : Cond.instanceMethod gy_Desk_keepFound ∈ gt_T := gt_m5 (List.mem_of_getElem? (i := 236) rfl) rfl
theorem gk_772 : Cond.selects R_Desk gy_Desk_keepFound gy_Desk_keepFound ∈ gt_T := gt_p2 (List.mem_of_getElem? (i := 15) rfl) rfl
def gy_Desk_position : MethodName := ⟨R_Desk, "position", "(III)I"⟩
abbrev gb_Desk_position : ByteArray := prog_1_method_18_code
theorem gk_773 : Cond.code gy_Desk_position gb_Desk_position 6 (some .int) ∈ gt_T := gt_m5 (List.mem_of_getElem? (i := 218) rfl) rfl
theorem gm_Desk_position : gw_Mth gy_Desk_position gb_Desk_position 6 (some .int) 3 := ⟨gk_773, gk_361, ⟨by decide +kernel, by decide +kernel⟩, by decide +kernel⟩
theorem gd_Desk_position_0 : decode gb_Desk_position 0 = .ok (.aload_n 0, 1) := by decide +kernel
theorem gd_Desk_position_1 : decode gb_Desk_position 1 = .ok (.iload_n 1, 1) := by decide +kernel
theorem gd_Desk_position_2 : decode gb_Desk_position 2 = .ok (.invokevirtual 199, 3) := by decide +kernel
theorem gd_Desk_position_5 : decode gb_Desk_position 5 = .ok (.iload_n 3, 1) := by decide +kernel
theorem gd_Desk_position_6 : decode gb_Desk_position 6 = .ok (.iconst 1, 1) := by decide +kernel
theorem gd_Desk_position_7 : decode gb_Desk_position 7 = .ok (.if_icmp .ge 11, 3) := by decide +kernel
theorem gd_Desk_position_10 : decode gb_Desk_position 10 = .ok (.new 88, 3) := by decide +kernel
theorem gd_Desk_position_13 : decode gb_Desk_position 13 = .ok (.dup, 1) := by decide +kernel
theorem gd_Desk_position_14 : decode gb_Desk_position 14 = .ok (.invokespecial 90, 3) := by decide +kernel
theorem gd_Desk_position_17 : decode gb_Desk_position 17 = .ok (.athrow, 1) := by decide +kernel
theorem gd_Desk_position_18 : decode gb_Desk_position 18 = .ok (.aload_n 0, 1) := by decide +kernel
theorem gd_Desk_position_19 : decode gb_Desk_position 19 = .ok (.getfield 42, 3) := by decide +kernel
theorem gd_Desk_position_22 : decode gb_Desk_position 22 = .ok (.iload_n 1, 1) := by decide +kernel
theorem gd_Desk_position_23 : decode gb_Desk_position 23 = .ok (.iaload, 1) := by decide +kernel
theorem gd_Desk_position_24 : decode gb_Desk_position 24 = .ok (.istore 4, 2) := by decide +kernel
theorem gd_Desk_position_26 : decode gb_Desk_position 26 = .ok (.aload_n 0, 1) := by decide +kernel
theorem gd_Desk_position_27 : decode gb_Desk_position 27 = .ok (.getfield 71, 3) := by decide +kernel
theorem gd_Desk_position_30 : decode gb_Desk_position 30 = .ok (.getfield 181, 3) := by decide +kernel
theorem gd_Desk_position_33 : decode gb_Desk_position 33 = .ok (.iload 4, 2) := by decide +kernel
theorem gd_Desk_position_35 : decode gb_Desk_position 35 = .ok (.baload, 1) := by decide +kernel
theorem gd_Desk_position_36 : decode gb_Desk_position 36 = .ok (.ifCond .ne 11, 3) := by decide +kernel
theorem gd_Desk_position_39 : decode gb_Desk_position 39 = .ok (.new 100, 3) := by decide +kernel
theorem gd_Desk_position_42 : decode gb_Desk_position 42 = .ok (.dup, 1) := by decide +kernel
theorem gd_Desk_position_43 : decode gb_Desk_position 43 = .ok (.invokespecial 102, 3) := by decide +kernel
theorem gd_Desk_position_46 : decode gb_Desk_position 46 = .ok (.athrow, 1) := by decide +kernel
theorem gd_Desk_position_47 : decode gb_Desk_position 47 = .ok (.aload_n 0, 1) := by decide +kernel
theorem gd_Desk_position_48 : decode gb_Desk_position 48 = .ok (.getfield 38, 3) := by decide +kernel
theorem gd_Desk_position_51 : decode gb_Desk_position 51 = .ok (.aload_n 0, 1) := by decide +kernel
theorem gd_Desk_position_52 : decode gb_Desk_position 52 = .ok (.getfield 71, 3) := by decide +kernel
theorem gd_Desk_position_55 : decode gb_Desk_position 55 = .ok (.getfield 185, 3) := by decide +kernel
theorem gd_Desk_position_58 : decode gb_Desk_position 58 = .ok (.iload 4, 2) := by decide +kernel
theorem gd_Desk_position_60 : decode gb_Desk_position 60 = .ok (.aaload, 1) := by decide +kernel
theorem gd_Desk_position_61 : decode gb_Desk_position 61 = .ok (.iload_n 2, 1) := by decide +kernel
theorem gd_Desk_position_62 : decode gb_Desk_position 62 = .ok (.iload_n 3, 1) := by decide +kernel
theorem gd_Desk_position_63 : decode gb_Desk_position 63 = .ok (.aload_n 0, 1) := by decide +kernel
theorem gd_Desk_position_64 : decode gb_Desk_position 64 = .ok (.getfield 46, 3) := by decide +kernel
theorem gd_Desk_position_67 : decode gb_Desk_position 67 = .ok (.iload_n 1, 1) := by decide +kernel
theorem gd_Desk_position_68 : decode gb_Desk_position 68 = .ok (.iaload, 1) := by decide +kernel
theorem gd_Desk_position_69 : decode gb_Desk_position 69 = .ok (.invokevirtual 202, 3) := by decide +kernel
theorem gd_Desk_position_72 : decode gb_Desk_position 72 = .ok (.istore 5, 2) := by decide +kernel
theorem gd_Desk_position_74 : decode gb_Desk_position 74 = .ok (.aload_n 0, 1) := by decide +kernel
theorem gd_Desk_position_75 : decode gb_Desk_position 75 = .ok (.invokevirtual 206, 3) := by decide +kernel
theorem gd_Desk_position_78 : decode gb_Desk_position 78 = .ok (.iload 5, 2) := by decide +kernel
theorem gd_Desk_position_80 : decode gb_Desk_position 80 = .ok (.ireturn, 1) := by decide +kernel
def gf_Desk_position_b0 (F : Nat) (z : gw_Sh)  (u : gw_St) (t0 : Nat) (x1 : Int32) (x2 : Int32) (x3 : Int32) : Option ((Int32 ⊕ Nat) × gw_St) :=
  gf_ct (gf_Desk_needDial F z u t0 x1) fun a3 u1 => if (1 : Int32) ≤ x3 then (gf_nn (u1.2.2 t0 4) fun q6 => if (x1 < 0 ∨ z.2.2 q6 ≤ (x1).toNatClampNeg) then none else gf_nm (u1.1 q6 (x1).toNatClampNeg) fun a9 => gf_nn (u1.2.2 t0 7) fun q11 => gf_nn (u1.2.2 q11 0) fun q13 => if (a9 < 0 ∨ z.2.2 q13 ≤ (a9).toNatClampNeg) then none else if (u1.1 q13 (a9).toNatClampNeg) = 0 then (some (.inr 2, u1)) else (gf_nn (u1.2.2 t0 3) fun q17 => gf_nn (u1.2.2 t0 7) fun q19 => gf_nn (u1.2.2 q19 1) fun q21 => if (a9 < 0 ∨ z.2.2 q21 ≤ (a9).toNatClampNeg) then none else gf_nn (u1.2.2 q21 (a9).toNatClampNeg) fun q24 => gf_nn (u1.2.2 t0 5) fun q26 => if (x1 < 0 ∨ z.2.2 q26 ≤ (x1).toNatClampNeg) then none else gf_cl (gf_Hands_point F z u1 q17 q24 x2 x3 (u1.1 q26 (x1).toNatClampNeg)) fun a31 u29 => gf_ct (gf_Desk_keepFound F z u29 t0) fun a34 u32 => some (.inl a31, u32))) else (some (.inr 1, u1))
def gf_Desk_position (F : Nat) (z : gw_Sh) (u : gw_St) (t0 : Nat) (x1 : Int32) (x2 : Int32) (x3 : Int32) : Option ((Int32 ⊕ Nat) × gw_St) := gf_Desk_position_b0 F z  u t0 x1 x2 x3
set_option maxHeartbeats 4000000 in
set_option maxRecDepth 20000 in
theorem gx_Desk_position_b0 {p : Program} {l : Launch} {e : Env} {s : State} {m : MethodId} {args : Array Value} {below : List Frame} {meth : Method} {c : Code} {D : va_G} {cA : Nat → ClassId} {hs : Nat → Nat} {z : gw_Sh} (F : Nat) {r0 : ((Int32 ⊕ Nat) × gw_St)} (C : gw_Cx p s m args c gb_Desk_position 6 R_Desk D cA) (hr : meth.sig.returnType = (some .int)) (hk : meth.locks = false) {R : Room} (hR : 7 ≤ R.frames ∧ 209 ≤ R.locals) (hfl : l.flags = pinnedFlags ++ [noTraceFlag]) (hne : c.exceptionTable.isEmpty = true) (hX : xt_Ok e s R hs z r0) (u : gw_St) (t0 : Nat) (x1 : Int32) (x2 : Int32) (x3 : Int32) (o_t0 : gw_ok z t0 0) {H : Heap} {locs : List Loc} {ls : Array Slot} (hW : gw_Wx D cA hs z s u H locs) (hl : lv_has ls 6 [(0, .ref (hs t0)), (1, .int x1), (2, .int x2), (3, .int x3)]) (h : gf_Desk_position_b0 F z   u t0 x1 x2 x3 = some r0) : gw_Ti p l e R s m args below meth c D cA hs z r0 H locs ls 0 [] := by
  obtain ⟨hx, hb, hml, hown, hts, hK⟩ := id C
  unfold gf_Desk_position_b0 at h
  refine lv_aload_n hx hb gd_Desk_position_0 rfl (lv_at hl 0 rfl) ?_
  refine lv_iload_n hx hb gd_Desk_position_1 rfl (lv_at hl 1 rfl) ?_
  rcases gf_ct_ok h with ⟨k4, u1, d2, rfl⟩ | ⟨a3, u1, d2, h⟩
  · have hX9 : e.platform.stackTraces = false ∧ xt_Zs (gw_A hs z s.heap.size) s s.heap ∧ 1 ≤ R.cells ∧ 6 ≤ R.slots := hX
    exact xt_prop (K := R_Desk) (As := [.int x1]) (rest := []) C hW (fun _ h => Or.inr h) hX9.2.1 hl.1 hk hne gm_Desk_needDial (gt_Desk_needDial l hfl F o_t0 d2 _) gk_764 gk_765 gk_766 o_t0 (by decide) rfl rfl rfl ⟨(Nat.le_trans (m := 7) (Nat.le_of_ble_eq_true rfl) hR.1), (Nat.le_trans (m := 209) (Nat.le_of_ble_eq_true rfl) hR.2)⟩ hX9.2.2 rfl rfl (Nat.le_of_ble_eq_true rfl) gd_Desk_position_2
  refine gw_callVv (K := R_Desk) (As := [.int x1]) (rest := []) C hW (fun _ h => Or.inr h) hl.1 gm_Desk_needDial (gc_Desk_needDial l hfl F o_t0 d2 _) gk_764 gk_765 gk_766 o_t0 (by decide) rfl rfl rfl ⟨(Nat.le_trans (m := 7) (Nat.le_of_ble_eq_true rfl) hR.1), (Nat.le_trans (m := 209) (Nat.le_of_ble_eq_true rfl) hR.2)⟩ ⟨Nat.zero_le _, Nat.zero_le _⟩ rfl rfl (Nat.le_of_ble_eq_true rfl) gd_Desk_position_2 (fun H locs hW => ?_)
  refine lv_iload_n hx hb gd_Desk_position_5 rfl (lv_at hl 3 rfl) ?_
  refine lv_iconst (v := 1) hx hb gd_Desk_position_6 (by decide) ?_
  refine lv_icmp_ge (tgt := 18) hx hb gd_Desk_position_7 (by decide) (fun c5 => ?_) (fun c5 => ?_)
  · have h := gf_t c5 h
    refine lv_aload_n hx hb gd_Desk_position_18 rfl (lv_at hl 0 rfl) ?_
    obtain ⟨q6, e7, h⟩ := gf_nn_ok h
    refine gw_getr (k := 4) (ty := 10) (ref := R_Desk) C hW o_t0 (by decide) rfl gi_Desk rfl (by decide) rfl rfl gk_359 gd_Desk_position_19 e7 ?_
    have o_q6 := hW.ref (d := 10) o_t0 e7 rfl
    refine lv_iload_n hx hb gd_Desk_position_22 rfl (lv_at hl 1 rfl) ?_
    obtain ⟨g8, h⟩ := gf_if_ok h
    refine gw_iald C hW o_q6 g8 gd_Desk_position_23 ?_
    refine lv_topi (fun a9 e10 => ?_)
    have h := gf_nm_ok e10 h
    refine lv_istore (lv' := [(4, .int a9), (0, .ref (hs t0)), (1, .int x1), (2, .int x2), (3, .int x3)]) hx hb gd_Desk_position_24 hl (by decide) rfl (fun ls hl => ?_)
    refine lv_aload_n hx hb gd_Desk_position_26 rfl (lv_at hl 1 rfl) ?_
    obtain ⟨q11, e12, h⟩ := gf_nn_ok h
    refine gw_getr (k := 7) (ty := 3) (ref := R_Desk) C hW o_t0 (by decide) rfl gi_Desk rfl (by decide) rfl rfl gk_357 gd_Desk_position_27 e12 ?_
    have o_q11 := hW.ref (d := 3) o_t0 e12 rfl
    obtain ⟨q13, e14, h⟩ := gf_nn_ok h
    refine gw_getr (k := 0) (ty := 12) (ref := R_Speeds) C hW o_q11 (by decide) rfl gi_Speeds rfl (by decide) rfl rfl gk_747 gd_Desk_position_30 e14 ?_
    have o_q13 := hW.ref (d := 12) o_q11 e14 rfl
    refine lv_iload hx hb gd_Desk_position_33 (lv_at hl 0 rfl) ?_
    obtain ⟨g15, h⟩ := gf_if_ok h
    refine gw_zald C hW o_q13 g15 gd_Desk_position_35 ?_
    refine lv_if_ne (tgt := 47) hx hb gd_Desk_position_36 (by decide) (fun c16 => ?_) (fun c16 => ?_)
    · have h := gf_f c16 h
      refine lv_aload_n hx hb gd_Desk_position_47 rfl (lv_at hl 1 rfl) ?_
      obtain ⟨q17, e18, h⟩ := gf_nn_ok h
      refine gw_getr (k := 3) (ty := 5) (ref := R_Desk) C hW o_t0 (by decide) rfl gi_Desk rfl (by decide) rfl rfl gk_758 gd_Desk_position_48 e18 ?_
      have o_q17 := hW.ref (d := 5) o_t0 e18 rfl
      refine lv_aload_n hx hb gd_Desk_position_51 rfl (lv_at hl 1 rfl) ?_
      obtain ⟨q19, e20, h⟩ := gf_nn_ok h
      refine gw_getr (k := 7) (ty := 3) (ref := R_Desk) C hW o_t0 (by decide) rfl gi_Desk rfl (by decide) rfl rfl gk_357 gd_Desk_position_52 e20 ?_
      have o_q19 := hW.ref (d := 3) o_t0 e20 rfl
      obtain ⟨q21, e22, h⟩ := gf_nn_ok h
      refine gw_getr (k := 1) (ty := 13) (ref := R_Speeds) C hW o_q19 (by decide) rfl gi_Speeds rfl (by decide) rfl rfl gk_748 gd_Desk_position_55 e22 ?_
      have o_q21 := hW.ref (d := 13) o_q19 e22 rfl
      refine lv_iload hx hb gd_Desk_position_58 (lv_at hl 0 rfl) ?_
      obtain ⟨g23, h⟩ := gf_if_ok h
      obtain ⟨q24, e25, h⟩ := gf_nn_ok h
      refine gw_aald C hW o_q21 g23 gd_Desk_position_60 e25 ?_
      have o_q24 := hW.ref (d := 6) o_q21 e25 rfl
      refine lv_iload_n hx hb gd_Desk_position_61 rfl (lv_at hl 3 rfl) ?_
      refine lv_iload_n hx hb gd_Desk_position_62 rfl (lv_at hl 4 rfl) ?_
      refine lv_aload_n hx hb gd_Desk_position_63 rfl (lv_at hl 1 rfl) ?_
      obtain ⟨q26, e27, h⟩ := gf_nn_ok h
      refine gw_getr (k := 5) (ty := 10) (ref := R_Desk) C hW o_t0 (by decide) rfl gi_Desk rfl (by decide) rfl rfl gk_755 gd_Desk_position_64 e27 ?_
      have o_q26 := hW.ref (d := 10) o_t0 e27 rfl
      refine lv_iload_n hx hb gd_Desk_position_67 rfl (lv_at hl 2 rfl) ?_
      obtain ⟨g28, h⟩ := gf_if_ok h
      refine gw_iald C hW o_q26 g28 gd_Desk_position_68 ?_
      obtain ⟨a31, u29, d30, h⟩ := gf_cl_ok h
      refine gw_callVi (K := R_Hands) (As := [.ref (hs q24), .int x2, .int x3, .int (u1.1 q26 (x1).toNatClampNeg)]) (rest := []) C hW (fun _ h => Or.inr h) hl.1 gm_Hands_point (gc_Hands_point l F o_q17 o_q24 d30 _) gk_767 gk_768 gk_769 o_q17 (by decide) rfl rfl rfl ⟨(Nat.le_trans (m := 7) (Nat.le_of_ble_eq_true rfl) hR.1), (Nat.le_trans (m := 209) (Nat.le_of_ble_eq_true rfl) hR.2)⟩ ⟨Nat.zero_le _, Nat.zero_le _⟩ rfl rfl (Nat.le_of_ble_eq_true rfl) gd_Desk_position_69 (fun H locs hW => ?_)
      refine lv_istore (lv' := [(5, .int a31), (4, .int a9), (0, .ref (hs t0)), (1, .int x1), (2, .int x2), (3, .int x3)]) hx hb gd_Desk_position_72 hl (by decide) rfl (fun ls hl => ?_)
      refine lv_aload_n hx hb gd_Desk_position_74 rfl (lv_at hl 2 rfl) ?_
      rcases gf_ct_ok h with ⟨k35, u32, d33, rfl⟩ | ⟨a34, u32, d33, h⟩
      · have hX9 : e.platform.stackTraces = false ∧ xt_Zs (gw_A hs z s.heap.size) s s.heap ∧ 1 ≤ R.cells ∧ 6 ≤ R.slots := hX
        exact xt_prop (K := R_Desk) (As := []) (rest := []) C hW (fun _ h => Or.inr h) hX9.2.1 hl.1 hk hne gm_Desk_keepFound (gt_Desk_keepFound l hfl F o_t0 d33 _) gk_770 gk_771 gk_772 o_t0 (by decide) rfl rfl rfl ⟨(Nat.le_trans (m := 7) (Nat.le_of_ble_eq_true rfl) hR.1), (Nat.le_trans (m := 209) (Nat.le_of_ble_eq_true rfl) hR.2)⟩ hX9.2.2 rfl rfl (Nat.le_of_ble_eq_true rfl) gd_Desk_position_75
      refine gw_callVv (K := R_Desk) (As := []) (rest := []) C hW (fun _ h => Or.inr h) hl.1 gm_Desk_keepFound (gc_Desk_keepFound l hfl F o_t0 d33 _) gk_770 gk_771 gk_772 o_t0 (by decide) rfl rfl rfl ⟨(Nat.le_trans (m := 7) (Nat.le_of_ble_eq_true rfl) hR.1), (Nat.le_trans (m := 209) (Nat.le_of_ble_eq_true rfl) hR.2)⟩ ⟨Nat.zero_le _, Nat.zero_le _⟩ rfl rfl (Nat.le_of_ble_eq_true rfl) gd_Desk_position_75 (fun H locs hW => ?_)
      refine lv_iload hx hb gd_Desk_position_78 (lv_at hl 0 rfl) ?_
      obtain rfl := Option.some.inj h
      exact gw_iret C hW hr hk gd_Desk_position_80
    · have h := gf_t c16 h
      obtain rfl := Option.some.inj h
      have hX9 : e.platform.stackTraces = false ∧ xt_Zs (gw_A hs z s.heap.size) s s.heap ∧ 1 ≤ R.cells ∧ 6 ≤ R.slots := hX
      exact xt_throw (k := 2) C hW (fun _ h => Or.inr h) hX9.2.1 hX9.1 hl.1 hk (xt_out hne _) (by decide +kernel) xa_2 gk_675 gk_676 gk_677 gd_Desk_position_39 gd_Desk_position_42 gd_Desk_position_43 gd_Desk_position_46 (Nat.le_trans (m := 7) (Nat.le_of_ble_eq_true rfl) hR.1) (Nat.le_trans (m := 209) (Nat.le_of_ble_eq_true rfl) hR.2) hX9.2.2.1 hX9.2.2.2
  · have h := gf_f c5 h
    obtain rfl := Option.some.inj h
    have hX9 : e.platform.stackTraces = false ∧ xt_Zs (gw_A hs z s.heap.size) s s.heap ∧ 1 ≤ R.cells ∧ 6 ≤ R.slots := hX
    exact xt_throw (k := 1) C hW (fun _ h => Or.inr h) hX9.2.1 hX9.1 hl.1 hk (xt_out hne _) (by decide +kernel) xa_1 gk_659 gk_660 gk_661 gd_Desk_position_10 gd_Desk_position_13 gd_Desk_position_14 gd_Desk_position_17 (Nat.le_trans (m := 7) (Nat.le_of_ble_eq_true rfl) hR.1) (Nat.le_trans (m := 209) (Nat.le_of_ble_eq_true rfl) hR.2) hX9.2.2.1 hX9.2.2.2

set_option maxRecDepth 20000 in
theorem gc_Desk_position (l : Launch) (hfl : l.flags = pinnedFlags ++ [noTraceFlag]) {D : va_G} {cA : Nat → ClassId} {hs : Nat → Nat} {z : gw_Sh} (F : Nat) {u w : gw_St} {v : Int32} {t0 : Nat} {x1 : Int32} {x2 : Int32} {x3 : Int32} (o_t0 : gw_ok z t0 0) (h : gf_Desk_position F z u t0 x1 x2 x3 = some (.inl v, w)) (sz : Nat) : gw_Mi l gy_Desk_position gb_Desk_position 6 (some .int) (gw_rm 7 209) [.ref (hs t0), .int x1, .int x2, .int x3] D cA hs z u sz (v, w) := by
  refine xt_enter0 (by decide) (Nat.le_of_ble_eq_true rfl) ?_
  intro p e s m below meth c ls hsz C hW hr hk hne hl
  subst hsz
  exact gx_Desk_position_b0 (e := e) (hs := hs) (z := z) (R := gw_rm 7 209) (r0 := (.inl v, w)) F C hr hk ⟨Nat.le_refl _, Nat.le_refl _⟩ hfl hne trivial u t0 x1 x2 x3 o_t0 hW (lv_sub hl [0, 1, 2, 3] rfl) h
set_option maxRecDepth 20000 in
theorem gt_Desk_position (l : Launch) (hfl : l.flags = pinnedFlags ++ [noTraceFlag]) {D : va_G} {cA : Nat → ClassId} {hs : Nat → Nat} {z : gw_Sh} (F : Nat) {u w : gw_St} {k : Nat} {t0 : Nat} {x1 : Int32} {x2 : Int32} {x3 : Int32} (o_t0 : gw_ok z t0 0) (h : gf_Desk_position F z u t0 x1 x2 x3 = some (.inr k, w)) (sz : Nat) : gw_Mt l gy_Desk_position gb_Desk_position 6 (some .int) (xt_rm 7 209) [.ref (hs t0), .int x1, .int x2, .int x3] D cA hs z u sz k w := by
  refine xt_enter hfl (by decide) (Nat.le_of_ble_eq_true rfl) ?_
  intro p e s m below meth c ls hsz C hW hr hk hne hZ htr hl
  exact gx_Desk_position_b0 (e := e) (hs := hs) (z := z) (R := xt_rm 7 209) (r0 := (.inr k, w)) F C hr hk ⟨Nat.le_refl _, Nat.le_refl _⟩ hfl hne ⟨htr, hZ, Nat.le_refl _, Nat.le_refl _⟩ u t0 x1 x2 x3 o_t0 hW (lv_sub hl [0, 1, 2, 3] rfl) h
-- GearDesk.meet(II)Z
theorem gk_774 : Cond.methodLink R_Desk 209 gy_Hands_turnsToMeet ∈ gt_T := gt_m6 (List.mem_of_getElem? (i := 7) rfl) rfl
theorem gk_775 : Cond.instanceMethod gy_Hands_turnsToMeet ∈ gt_T := gt_m6 (List.mem_of_getElem? (i := 8) rfl) rfl
theorem gk_776 : Cond.selects R_Hands gy_Hands_turnsToMeet gy_Hands_turnsToMeet ∈ gt_T := gt_m6 (List.mem_of_getElem? (i := 9) rfl) rfl
def gy_Desk_meet : MethodName := ⟨R_Desk, "meet", "(II)Z"⟩
abbrev gb_Desk_meet : ByteArray := prog_1_method_19_code
theorem gk_777 : Cond.code gy_Desk_meet gb_Desk_meet 5 (some .boolean) ∈ gt_T := gt_m6 (List.mem_of_getElem? (i := 6) rfl) rfl
theorem gm_Desk_meet : gw_Mth gy_Desk_meet gb_Desk_meet 5 (some .boolean) 2 := ⟨gk_777, gk_361, ⟨by decide +kernel, by decide +kernel⟩, by decide +kernel⟩
theorem gd_Desk_meet_0 : decode gb_Desk_meet 0 = .ok (.aload_n 0, 1) := by decide +kernel
theorem gd_Desk_meet_1 : decode gb_Desk_meet 1 = .ok (.iload_n 1, 1) := by decide +kernel
theorem gd_Desk_meet_2 : decode gb_Desk_meet 2 = .ok (.invokevirtual 199, 3) := by decide +kernel
theorem gd_Desk_meet_5 : decode gb_Desk_meet 5 = .ok (.aload_n 0, 1) := by decide +kernel
theorem gd_Desk_meet_6 : decode gb_Desk_meet 6 = .ok (.iload_n 2, 1) := by decide +kernel
theorem gd_Desk_meet_7 : decode gb_Desk_meet 7 = .ok (.invokevirtual 199, 3) := by decide +kernel
theorem gd_Desk_meet_10 : decode gb_Desk_meet 10 = .ok (.aload_n 0, 1) := by decide +kernel
theorem gd_Desk_meet_11 : decode gb_Desk_meet 11 = .ok (.getfield 42, 3) := by decide +kernel
theorem gd_Desk_meet_14 : decode gb_Desk_meet 14 = .ok (.iload_n 1, 1) := by decide +kernel
theorem gd_Desk_meet_15 : decode gb_Desk_meet 15 = .ok (.iaload, 1) := by decide +kernel
theorem gd_Desk_meet_16 : decode gb_Desk_meet 16 = .ok (.istore_n 3, 1) := by decide +kernel
theorem gd_Desk_meet_17 : decode gb_Desk_meet 17 = .ok (.aload_n 0, 1) := by decide +kernel
theorem gd_Desk_meet_18 : decode gb_Desk_meet 18 = .ok (.getfield 42, 3) := by decide +kernel
theorem gd_Desk_meet_21 : decode gb_Desk_meet 21 = .ok (.iload_n 2, 1) := by decide +kernel
theorem gd_Desk_meet_22 : decode gb_Desk_meet 22 = .ok (.iaload, 1) := by decide +kernel
theorem gd_Desk_meet_23 : decode gb_Desk_meet 23 = .ok (.istore 4, 2) := by decide +kernel
theorem gd_Desk_meet_25 : decode gb_Desk_meet 25 = .ok (.aload_n 0, 1) := by decide +kernel
theorem gd_Desk_meet_26 : decode gb_Desk_meet 26 = .ok (.getfield 71, 3) := by decide +kernel
theorem gd_Desk_meet_29 : decode gb_Desk_meet 29 = .ok (.getfield 181, 3) := by decide +kernel
theorem gd_Desk_meet_32 : decode gb_Desk_meet 32 = .ok (.iload_n 3, 1) := by decide +kernel
theorem gd_Desk_meet_33 : decode gb_Desk_meet 33 = .ok (.baload, 1) := by decide +kernel
theorem gd_Desk_meet_34 : decode gb_Desk_meet 34 = .ok (.ifCond .eq 45, 3) := by decide +kernel
theorem gd_Desk_meet_37 : decode gb_Desk_meet 37 = .ok (.aload_n 0, 1) := by decide +kernel
theorem gd_Desk_meet_38 : decode gb_Desk_meet 38 = .ok (.getfield 71, 3) := by decide +kernel
theorem gd_Desk_meet_41 : decode gb_Desk_meet 41 = .ok (.getfield 181, 3) := by decide +kernel
theorem gd_Desk_meet_44 : decode gb_Desk_meet 44 = .ok (.iload 4, 2) := by decide +kernel
theorem gd_Desk_meet_46 : decode gb_Desk_meet 46 = .ok (.baload, 1) := by decide +kernel
theorem gd_Desk_meet_47 : decode gb_Desk_meet 47 = .ok (.ifCond .eq 32, 3) := by decide +kernel
theorem gd_Desk_meet_50 : decode gb_Desk_meet 50 = .ok (.aload_n 0, 1) := by decide +kernel
theorem gd_Desk_meet_51 : decode gb_Desk_meet 51 = .ok (.getfield 38, 3) := by decide +kernel
theorem gd_Desk_meet_54 : decode gb_Desk_meet 54 = .ok (.aload_n 0, 1) := by decide +kernel
theorem gd_Desk_meet_55 : decode gb_Desk_meet 55 = .ok (.getfield 71, 3) := by decide +kernel
theorem gd_Desk_meet_58 : decode gb_Desk_meet 58 = .ok (.getfield 185, 3) := by decide +kernel
theorem gd_Desk_meet_61 : decode gb_Desk_meet 61 = .ok (.iload_n 3, 1) := by decide +kernel
theorem gd_Desk_meet_62 : decode gb_Desk_meet 62 = .ok (.aaload, 1) := by decide +kernel
theorem gd_Desk_meet_63 : decode gb_Desk_meet 63 = .ok (.aload_n 0, 1) := by decide +kernel
theorem gd_Desk_meet_64 : decode gb_Desk_meet 64 = .ok (.getfield 71, 3) := by decide +kernel
theorem gd_Desk_meet_67 : decode gb_Desk_meet 67 = .ok (.getfield 185, 3) := by decide +kernel
theorem gd_Desk_meet_70 : decode gb_Desk_meet 70 = .ok (.iload 4, 2) := by decide +kernel
theorem gd_Desk_meet_72 : decode gb_Desk_meet 72 = .ok (.aaload, 1) := by decide +kernel
theorem gd_Desk_meet_73 : decode gb_Desk_meet 73 = .ok (.invokevirtual 209, 3) := by decide +kernel
theorem gd_Desk_meet_76 : decode gb_Desk_meet 76 = .ok (.ifCond .ne 5, 3) := by decide +kernel
theorem gd_Desk_meet_79 : decode gb_Desk_meet 79 = .ok (.iconst 0, 1) := by decide +kernel
theorem gd_Desk_meet_80 : decode gb_Desk_meet 80 = .ok (.ireturn, 1) := by decide +kernel
theorem gd_Desk_meet_81 : decode gb_Desk_meet 81 = .ok (.aload_n 0, 1) := by decide +kernel
theorem gd_Desk_meet_82 : decode gb_Desk_meet 82 = .ok (.invokevirtual 206, 3) := by decide +kernel
theorem gd_Desk_meet_85 : decode gb_Desk_meet 85 = .ok (.iconst 1, 1) := by decide +kernel
theorem gd_Desk_meet_86 : decode gb_Desk_meet 86 = .ok (.ireturn, 1) := by decide +kernel
def gf_Desk_meet_b79 (F : Nat) (z : gw_Sh)  (u : gw_St)  : Option ((Int32 ⊕ Nat) × gw_St) :=
  if ¬ ((0 : Int32) &&& 1 = (0 : Int32)) then none else some (.inl (0 : Int32), u)
def gf_Desk_meet_b0 (F : Nat) (z : gw_Sh)  (u : gw_St) (t0 : Nat) (x1 : Int32) (x2 : Int32) : Option ((Int32 ⊕ Nat) × gw_St) :=
  gf_ct (gf_Desk_needDial F z u t0 x1) fun a4 u2 => gf_ct (gf_Desk_needDial F z u2 t0 x2) fun a8 u6 => gf_nn (u6.2.2 t0 4) fun q10 => if (x1 < 0 ∨ z.2.2 q10 ≤ (x1).toNatClampNeg) then none else gf_nm (u6.1 q10 (x1).toNatClampNeg) fun a13 => gf_nn (u6.2.2 t0 4) fun q15 => if (x2 < 0 ∨ z.2.2 q15 ≤ (x2).toNatClampNeg) then none else gf_nm (u6.1 q15 (x2).toNatClampNeg) fun a18 => gf_nn (u6.2.2 t0 7) fun q20 => gf_nn (u6.2.2 q20 0) fun q22 => if (a13 < 0 ∨ z.2.2 q22 ≤ (a13).toNatClampNeg) then none else if (u6.1 q22 (a13).toNatClampNeg) = 0 then (gf_Desk_meet_b79 F z  u6 ) else (gf_nn (u6.2.2 t0 7) fun q26 => gf_nn (u6.2.2 q26 0) fun q28 => if (a18 < 0 ∨ z.2.2 q28 ≤ (a18).toNatClampNeg) then none else if (u6.1 q28 (a18).toNatClampNeg) = 0 then (gf_Desk_meet_b79 F z  u6 ) else (gf_nn (u6.2.2 t0 3) fun q32 => gf_nn (u6.2.2 t0 7) fun q34 => gf_nn (u6.2.2 q34 1) fun q36 => if (a13 < 0 ∨ z.2.2 q36 ≤ (a13).toNatClampNeg) then none else gf_nn (u6.2.2 q36 (a13).toNatClampNeg) fun q39 => gf_nn (u6.2.2 t0 7) fun q41 => gf_nn (u6.2.2 q41 1) fun q43 => if (a18 < 0 ∨ z.2.2 q43 ≤ (a18).toNatClampNeg) then none else gf_nn (u6.2.2 q43 (a18).toNatClampNeg) fun q46 => gf_cl (gf_Hands_turnsToMeet F z u6 q32 q39 q46) fun a50 u48 => if a50 = 0 then (gf_Desk_meet_b79 F z  u48 ) else (gf_ct (gf_Desk_keepFound F z u48 t0) fun a54 u52 => if ¬ ((1 : Int32) &&& 1 = (1 : Int32)) then none else some (.inl (1 : Int32), u52))))
def gf_Desk_meet (F : Nat) (z : gw_Sh) (u : gw_St) (t0 : Nat) (x1 : Int32) (x2 : Int32) : Option ((Int32 ⊕ Nat) × gw_St) := gf_Desk_meet_b0 F z  u t0 x1 x2
set_option maxHeartbeats 4000000 in
set_option maxRecDepth 20000 in
theorem gx_Desk_meet_b79 {p : Program} {l : Launch} {e : Env} {s : State} {m : MethodId} {args : Array Value} {below : List Frame} {meth : Method} {c : Code} {D : va_G} {cA : Nat → ClassId} {hs : Nat → Nat} {z : gw_Sh} (F : Nat) {r0 : ((Int32 ⊕ Nat) × gw_St)} (C : gw_Cx p s m args c gb_Desk_meet 5 R_Desk D cA) (hr : meth.sig.returnType = (some .boolean)) (hk : meth.locks = false) {R : Room} (hR : 7 ≤ R.frames ∧ 206 ≤ R.locals) (hfl : l.flags = pinnedFlags ++ [noTraceFlag]) (hne : c.exceptionTable.isEmpty = true) (hX : xt_Ok e s R hs z r0) (u : gw_St)   {H : Heap} {locs : List Loc} {ls : Array Slot} (hW : gw_Wx D cA hs z s u H locs) (hl : lv_has ls 5 []) (h : gf_Desk_meet_b79 F z   u  = some r0) : gw_Ti p l e R s m args below meth c D cA hs z r0 H locs ls 79 [] := by
  obtain ⟨hx, hb, hml, hown, hts, hK⟩ := id C
  unfold gf_Desk_meet_b79 at h
  refine lv_iconst (v := 0) hx hb gd_Desk_meet_79 (by decide) ?_
  obtain ⟨g1, h⟩ := gf_if_ok h
  obtain rfl := Option.some.inj h
  exact gw_zret C hW hr (Decidable.not_not.mp g1) hk gd_Desk_meet_80

set_option maxHeartbeats 4000000 in
set_option maxRecDepth 20000 in
theorem gx_Desk_meet_b0 {p : Program} {l : Launch} {e : Env} {s : State} {m : MethodId} {args : Array Value} {below : List Frame} {meth : Method} {c : Code} {D : va_G} {cA : Nat → ClassId} {hs : Nat → Nat} {z : gw_Sh} (F : Nat) {r0 : ((Int32 ⊕ Nat) × gw_St)} (C : gw_Cx p s m args c gb_Desk_meet 5 R_Desk D cA) (hr : meth.sig.returnType = (some .boolean)) (hk : meth.locks = false) {R : Room} (hR : 7 ≤ R.frames ∧ 206 ≤ R.locals) (hfl : l.flags = pinnedFlags ++ [noTraceFlag]) (hne : c.exceptionTable.isEmpty = true) (hX : xt_Ok e s R hs z r0) (u : gw_St) (t0 : Nat) (x1 : Int32) (x2 : Int32) (o_t0 : gw_ok z t0 0) {H : Heap} {locs : List Loc} {ls : Array Slot} (hW : gw_Wx D cA hs z s u H locs) (hl : lv_has ls 5 [(0, .ref (hs t0)), (1, .int x1), (2, .int x2)]) (h : gf_Desk_meet_b0 F z   u t0 x1 x2 = some r0) : gw_Ti p l e R s m args below meth c D cA hs z r0 H locs ls 0 [] := by
  obtain ⟨hx, hb, hml, hown, hts, hK⟩ := id C
  unfold gf_Desk_meet_b0 at h
  refine lv_aload_n hx hb gd_Desk_meet_0 rfl (lv_at hl 0 rfl) ?_
  refine lv_iload_n hx hb gd_Desk_meet_1 rfl (lv_at hl 1 rfl) ?_
  rcases gf_ct_ok h with ⟨k5, u2, d3, rfl⟩ | ⟨a4, u2, d3, h⟩
  · have hX9 : e.platform.stackTraces = false ∧ xt_Zs (gw_A hs z s.heap.size) s s.heap ∧ 1 ≤ R.cells ∧ 6 ≤ R.slots := hX
    exact xt_prop (K := R_Desk) (As := [.int x1]) (rest := []) C hW (fun _ h => Or.inr h) hX9.2.1 hl.1 hk hne gm_Desk_needDial (gt_Desk_needDial l hfl F o_t0 d3 _) gk_764 gk_765 gk_766 o_t0 (by decide) rfl rfl rfl ⟨(Nat.le_trans (m := 7) (Nat.le_of_ble_eq_true rfl) hR.1), (Nat.le_trans (m := 206) (Nat.le_of_ble_eq_true rfl) hR.2)⟩ hX9.2.2 rfl rfl (Nat.le_of_ble_eq_true rfl) gd_Desk_meet_2
  refine gw_callVv (K := R_Desk) (As := [.int x1]) (rest := []) C hW (fun _ h => Or.inr h) hl.1 gm_Desk_needDial (gc_Desk_needDial l hfl F o_t0 d3 _) gk_764 gk_765 gk_766 o_t0 (by decide) rfl rfl rfl ⟨(Nat.le_trans (m := 7) (Nat.le_of_ble_eq_true rfl) hR.1), (Nat.le_trans (m := 206) (Nat.le_of_ble_eq_true rfl) hR.2)⟩ ⟨Nat.zero_le _, Nat.zero_le _⟩ rfl rfl (Nat.le_of_ble_eq_true rfl) gd_Desk_meet_2 (fun H locs hW => ?_)
  refine lv_aload_n hx hb gd_Desk_meet_5 rfl (lv_at hl 0 rfl) ?_
  refine lv_iload_n hx hb gd_Desk_meet_6 rfl (lv_at hl 2 rfl) ?_
  rcases gf_ct_ok h with ⟨k9, u6, d7, rfl⟩ | ⟨a8, u6, d7, h⟩
  · have hX9 : e.platform.stackTraces = false ∧ xt_Zs (gw_A hs z s.heap.size) s s.heap ∧ 1 ≤ R.cells ∧ 6 ≤ R.slots := hX
    exact xt_prop (K := R_Desk) (As := [.int x2]) (rest := []) C hW (fun _ h => Or.inr h) hX9.2.1 hl.1 hk hne gm_Desk_needDial (gt_Desk_needDial l hfl F o_t0 d7 _) gk_764 gk_765 gk_766 o_t0 (by decide) rfl rfl rfl ⟨(Nat.le_trans (m := 7) (Nat.le_of_ble_eq_true rfl) hR.1), (Nat.le_trans (m := 206) (Nat.le_of_ble_eq_true rfl) hR.2)⟩ hX9.2.2 rfl rfl (Nat.le_of_ble_eq_true rfl) gd_Desk_meet_7
  refine gw_callVv (K := R_Desk) (As := [.int x2]) (rest := []) C hW (fun _ h => Or.inr h) hl.1 gm_Desk_needDial (gc_Desk_needDial l hfl F o_t0 d7 _) gk_764 gk_765 gk_766 o_t0 (by decide) rfl rfl rfl ⟨(Nat.le_trans (m := 7) (Nat.le_of_ble_eq_true rfl) hR.1), (Nat.le_trans (m := 206) (Nat.le_of_ble_eq_true rfl) hR.2)⟩ ⟨Nat.zero_le _, Nat.zero_le _⟩ rfl rfl (Nat.le_of_ble_eq_true rfl) gd_Desk_meet_7 (fun H locs hW => ?_)
  refine lv_aload_n hx hb gd_Desk_meet_10 rfl (lv_at hl 0 rfl) ?_
  obtain ⟨q10, e11, h⟩ := gf_nn_ok h
  refine gw_getr (k := 4) (ty := 10) (ref := R_Desk) C hW o_t0 (by decide) rfl gi_Desk rfl (by decide) rfl rfl gk_359 gd_Desk_meet_11 e11 ?_
  have o_q10 := hW.ref (d := 10) o_t0 e11 rfl
  refine lv_iload_n hx hb gd_Desk_meet_14 rfl (lv_at hl 1 rfl) ?_
  obtain ⟨g12, h⟩ := gf_if_ok h
  refine gw_iald C hW o_q10 g12 gd_Desk_meet_15 ?_
  refine lv_topi (fun a13 e14 => ?_)
  have h := gf_nm_ok e14 h
  refine lv_istore_n (lv' := [(3, .int a13), (0, .ref (hs t0)), (1, .int x1), (2, .int x2)]) hx hb gd_Desk_meet_16 rfl hl (by decide) rfl (fun ls hl => ?_)
  refine lv_aload_n hx hb gd_Desk_meet_17 rfl (lv_at hl 1 rfl) ?_
  obtain ⟨q15, e16, h⟩ := gf_nn_ok h
  refine gw_getr (k := 4) (ty := 10) (ref := R_Desk) C hW o_t0 (by decide) rfl gi_Desk rfl (by decide) rfl rfl gk_359 gd_Desk_meet_18 e16 ?_
  have o_q15 := hW.ref (d := 10) o_t0 e16 rfl
  refine lv_iload_n hx hb gd_Desk_meet_21 rfl (lv_at hl 3 rfl) ?_
  obtain ⟨g17, h⟩ := gf_if_ok h
  refine gw_iald C hW o_q15 g17 gd_Desk_meet_22 ?_
  refine lv_topi (fun a18 e19 => ?_)
  have h := gf_nm_ok e19 h
  refine lv_istore (lv' := [(4, .int a18), (3, .int a13), (0, .ref (hs t0)), (1, .int x1), (2, .int x2)]) hx hb gd_Desk_meet_23 hl (by decide) rfl (fun ls hl => ?_)
  refine lv_aload_n hx hb gd_Desk_meet_25 rfl (lv_at hl 2 rfl) ?_
  obtain ⟨q20, e21, h⟩ := gf_nn_ok h
  refine gw_getr (k := 7) (ty := 3) (ref := R_Desk) C hW o_t0 (by decide) rfl gi_Desk rfl (by decide) rfl rfl gk_357 gd_Desk_meet_26 e21 ?_
  have o_q20 := hW.ref (d := 3) o_t0 e21 rfl
  obtain ⟨q22, e23, h⟩ := gf_nn_ok h
  refine gw_getr (k := 0) (ty := 12) (ref := R_Speeds) C hW o_q20 (by decide) rfl gi_Speeds rfl (by decide) rfl rfl gk_747 gd_Desk_meet_29 e23 ?_
  have o_q22 := hW.ref (d := 12) o_q20 e23 rfl
  refine lv_iload_n hx hb gd_Desk_meet_32 rfl (lv_at hl 1 rfl) ?_
  obtain ⟨g24, h⟩ := gf_if_ok h
  refine gw_zald C hW o_q22 g24 gd_Desk_meet_33 ?_
  refine lv_if_eq (tgt := 79) hx hb gd_Desk_meet_34 (by decide) (fun c25 => ?_) (fun c25 => ?_)
  · have h := gf_t c25 h
    exact gx_Desk_meet_b79 F C hr hk hR hfl hne hX  u6   hW (lv_sub hl [] rfl) h
  · have h := gf_f c25 h
    refine lv_aload_n hx hb gd_Desk_meet_37 rfl (lv_at hl 2 rfl) ?_
    obtain ⟨q26, e27, h⟩ := gf_nn_ok h
    refine gw_getr (k := 7) (ty := 3) (ref := R_Desk) C hW o_t0 (by decide) rfl gi_Desk rfl (by decide) rfl rfl gk_357 gd_Desk_meet_38 e27 ?_
    have o_q26 := hW.ref (d := 3) o_t0 e27 rfl
    obtain ⟨q28, e29, h⟩ := gf_nn_ok h
    refine gw_getr (k := 0) (ty := 12) (ref := R_Speeds) C hW o_q26 (by decide) rfl gi_Speeds rfl (by decide) rfl rfl gk_747 gd_Desk_meet_41 e29 ?_
    have o_q28 := hW.ref (d := 12) o_q26 e29 rfl
    refine lv_iload hx hb gd_Desk_meet_44 (lv_at hl 0 rfl) ?_
    obtain ⟨g30, h⟩ := gf_if_ok h
    refine gw_zald C hW o_q28 g30 gd_Desk_meet_46 ?_
    refine lv_if_eq (tgt := 79) hx hb gd_Desk_meet_47 (by decide) (fun c31 => ?_) (fun c31 => ?_)
    · have h := gf_t c31 h
      exact gx_Desk_meet_b79 F C hr hk hR hfl hne hX  u6   hW (lv_sub hl [] rfl) h
    · have h := gf_f c31 h
      refine lv_aload_n hx hb gd_Desk_meet_50 rfl (lv_at hl 2 rfl) ?_
      obtain ⟨q32, e33, h⟩ := gf_nn_ok h
      refine gw_getr (k := 3) (ty := 5) (ref := R_Desk) C hW o_t0 (by decide) rfl gi_Desk rfl (by decide) rfl rfl gk_758 gd_Desk_meet_51 e33 ?_
      have o_q32 := hW.ref (d := 5) o_t0 e33 rfl
      refine lv_aload_n hx hb gd_Desk_meet_54 rfl (lv_at hl 2 rfl) ?_
      obtain ⟨q34, e35, h⟩ := gf_nn_ok h
      refine gw_getr (k := 7) (ty := 3) (ref := R_Desk) C hW o_t0 (by decide) rfl gi_Desk rfl (by decide) rfl rfl gk_357 gd_Desk_meet_55 e35 ?_
      have o_q34 := hW.ref (d := 3) o_t0 e35 rfl
      obtain ⟨q36, e37, h⟩ := gf_nn_ok h
      refine gw_getr (k := 1) (ty := 13) (ref := R_Speeds) C hW o_q34 (by decide) rfl gi_Speeds rfl (by decide) rfl rfl gk_748 gd_Desk_meet_58 e37 ?_
      have o_q36 := hW.ref (d := 13) o_q34 e37 rfl
      refine lv_iload_n hx hb gd_Desk_meet_61 rfl (lv_at hl 1 rfl) ?_
      obtain ⟨g38, h⟩ := gf_if_ok h
      obtain ⟨q39, e40, h⟩ := gf_nn_ok h
      refine gw_aald C hW o_q36 g38 gd_Desk_meet_62 e40 ?_
      have o_q39 := hW.ref (d := 6) o_q36 e40 rfl
      refine lv_aload_n hx hb gd_Desk_meet_63 rfl (lv_at hl 2 rfl) ?_
      obtain ⟨q41, e42, h⟩ := gf_nn_ok h
      refine gw_getr (k := 7) (ty := 3) (ref := R_Desk) C hW o_t0 (by decide) rfl gi_Desk rfl (by decide) rfl rfl gk_357 gd_Desk_meet_64 e42 ?_
      have o_q41 := hW.ref (d := 3) o_t0 e42 rfl
      obtain ⟨q43, e44, h⟩ := gf_nn_ok h
      refine gw_getr (k := 1) (ty := 13) (ref := R_Speeds) C hW o_q41 (by decide) rfl gi_Speeds rfl (by decide) rfl rfl gk_748 gd_Desk_meet_67 e44 ?_
      have o_q43 := hW.ref (d := 13) o_q41 e44 rfl
      refine lv_iload hx hb gd_Desk_meet_70 (lv_at hl 0 rfl) ?_
      obtain ⟨g45, h⟩ := gf_if_ok h
      obtain ⟨q46, e47, h⟩ := gf_nn_ok h
      refine gw_aald C hW o_q43 g45 gd_Desk_meet_72 e47 ?_
      have o_q46 := hW.ref (d := 6) o_q43 e47 rfl
      obtain ⟨a50, u48, d49, h⟩ := gf_cl_ok h
      refine gw_callVi (K := R_Hands) (As := [.ref (hs q39), .ref (hs q46)]) (rest := []) C hW (fun _ h => Or.inr h) hl.1 gm_Hands_turnsToMeet (gc_Hands_turnsToMeet l F o_q32 o_q39 o_q46 d49 _) gk_774 gk_775 gk_776 o_q32 (by decide) rfl rfl rfl ⟨(Nat.le_trans (m := 7) (Nat.le_of_ble_eq_true rfl) hR.1), (Nat.le_trans (m := 206) (Nat.le_of_ble_eq_true rfl) hR.2)⟩ ⟨Nat.zero_le _, Nat.zero_le _⟩ rfl rfl (Nat.le_of_ble_eq_true rfl) gd_Desk_meet_73 (fun H locs hW => ?_)
      refine lv_if_ne (tgt := 81) hx hb gd_Desk_meet_76 (by decide) (fun c51 => ?_) (fun c51 => ?_)
      · have h := gf_f c51 h
        refine lv_aload_n hx hb gd_Desk_meet_81 rfl (lv_at hl 2 rfl) ?_
        rcases gf_ct_ok h with ⟨k55, u52, d53, rfl⟩ | ⟨a54, u52, d53, h⟩
        · have hX9 : e.platform.stackTraces = false ∧ xt_Zs (gw_A hs z s.heap.size) s s.heap ∧ 1 ≤ R.cells ∧ 6 ≤ R.slots := hX
          exact xt_prop (K := R_Desk) (As := []) (rest := []) C hW (fun _ h => Or.inr h) hX9.2.1 hl.1 hk hne gm_Desk_keepFound (gt_Desk_keepFound l hfl F o_t0 d53 _) gk_770 gk_771 gk_772 o_t0 (by decide) rfl rfl rfl ⟨(Nat.le_trans (m := 7) (Nat.le_of_ble_eq_true rfl) hR.1), (Nat.le_trans (m := 206) (Nat.le_of_ble_eq_true rfl) hR.2)⟩ hX9.2.2 rfl rfl (Nat.le_of_ble_eq_true rfl) gd_Desk_meet_82
        refine gw_callVv (K := R_Desk) (As := []) (rest := []) C hW (fun _ h => Or.inr h) hl.1 gm_Desk_keepFound (gc_Desk_keepFound l hfl F o_t0 d53 _) gk_770 gk_771 gk_772 o_t0 (by decide) rfl rfl rfl ⟨(Nat.le_trans (m := 7) (Nat.le_of_ble_eq_true rfl) hR.1), (Nat.le_trans (m := 206) (Nat.le_of_ble_eq_true rfl) hR.2)⟩ ⟨Nat.zero_le _, Nat.zero_le _⟩ rfl rfl (Nat.le_of_ble_eq_true rfl) gd_Desk_meet_82 (fun H locs hW => ?_)
        refine lv_iconst (v := 1) hx hb gd_Desk_meet_85 (by decide) ?_
        obtain ⟨g56, h⟩ := gf_if_ok h
        obtain rfl := Option.some.inj h
        exact gw_zret C hW hr (Decidable.not_not.mp g56) hk gd_Desk_meet_86
      · have h := gf_t c51 h
        exact gx_Desk_meet_b79 F C hr hk hR hfl hne hX  u48   hW (lv_sub hl [] rfl) h

set_option maxRecDepth 20000 in
theorem gc_Desk_meet (l : Launch) (hfl : l.flags = pinnedFlags ++ [noTraceFlag]) {D : va_G} {cA : Nat → ClassId} {hs : Nat → Nat} {z : gw_Sh} (F : Nat) {u w : gw_St} {v : Int32} {t0 : Nat} {x1 : Int32} {x2 : Int32} (o_t0 : gw_ok z t0 0) (h : gf_Desk_meet F z u t0 x1 x2 = some (.inl v, w)) (sz : Nat) : gw_Mi l gy_Desk_meet gb_Desk_meet 5 (some .boolean) (gw_rm 7 206) [.ref (hs t0), .int x1, .int x2] D cA hs z u sz (v, w) := by
  refine xt_enter0 (by decide) (Nat.le_of_ble_eq_true rfl) ?_
  intro p e s m below meth c ls hsz C hW hr hk hne hl
  subst hsz
  exact gx_Desk_meet_b0 (e := e) (hs := hs) (z := z) (R := gw_rm 7 206) (r0 := (.inl v, w)) F C hr hk ⟨Nat.le_refl _, Nat.le_refl _⟩ hfl hne trivial u t0 x1 x2 o_t0 hW (lv_sub hl [0, 1, 2] rfl) h
set_option maxRecDepth 20000 in
theorem gt_Desk_meet (l : Launch) (hfl : l.flags = pinnedFlags ++ [noTraceFlag]) {D : va_G} {cA : Nat → ClassId} {hs : Nat → Nat} {z : gw_Sh} (F : Nat) {u w : gw_St} {k : Nat} {t0 : Nat} {x1 : Int32} {x2 : Int32} (o_t0 : gw_ok z t0 0) (h : gf_Desk_meet F z u t0 x1 x2 = some (.inr k, w)) (sz : Nat) : gw_Mt l gy_Desk_meet gb_Desk_meet 5 (some .boolean) (xt_rm 7 206) [.ref (hs t0), .int x1, .int x2] D cA hs z u sz k w := by
  refine xt_enter hfl (by decide) (Nat.le_of_ble_eq_true rfl) ?_
  intro p e s m below meth c ls hsz C hW hr hk hne hZ htr hl
  exact gx_Desk_meet_b0 (e := e) (hs := hs) (z := z) (R := xt_rm 7 206) (r0 := (.inr k, w)) F C hr hk ⟨Nat.le_refl _, Nat.le_refl _⟩ hfl hne ⟨htr, hZ, Nat.le_refl _, Nat.le_refl _⟩ u t0 x1 x2 o_t0 hW (lv_sub hl [0, 1, 2] rfl) h
-- GearDesk.back()Z
theorem gk_778 : Cond.methodLink R_Desk 220 gy_Hands_anyReturns ∈ gt_T := gt_m6 (List.mem_of_getElem? (i := 28) rfl) rfl
theorem gk_779 : Cond.instanceMethod gy_Hands_anyReturns ∈ gt_T := gt_m6 (List.mem_of_getElem? (i := 29) rfl) rfl
theorem gk_780 : Cond.selects R_Hands gy_Hands_anyReturns gy_Hands_anyReturns ∈ gt_T := gt_m6 (List.mem_of_getElem? (i := 30) rfl) rfl
theorem gk_781 : Cond.methodLink R_Desk 216 gy_Hands_alsoReturn ∈ gt_T := gt_m6 (List.mem_of_getElem? (i := 22) rfl) rfl
theorem gk_782 : Cond.instanceMethod gy_Hands_alsoReturn ∈ gt_T := gt_m6 (List.mem_of_getElem? (i := 23) rfl) rfl
theorem gk_783 : Cond.selects R_Hands gy_Hands_alsoReturn gy_Hands_alsoReturn ∈ gt_T := gt_m6 (List.mem_of_getElem? (i := 24) rfl) rfl
theorem gk_784 : Cond.methodLink R_Desk 213 gy_Hands_beginReturn ∈ gt_T := gt_m6 (List.mem_of_getElem? (i := 18) rfl) rfl
theorem gk_785 : Cond.instanceMethod gy_Hands_beginReturn ∈ gt_T := gt_m6 (List.mem_of_getElem? (i := 19) rfl) rfl
theorem gk_786 : Cond.selects R_Hands gy_Hands_beginReturn gy_Hands_beginReturn ∈ gt_T := gt_m6 (List.mem_of_getElem? (i := 20) rfl) rfl
def gy_Desk_back : MethodName := ⟨R_Desk, "back", "()Z"⟩
abbrev gb_Desk_back : ByteArray := prog_1_method_20_code
theorem gk_787 : Cond.code gy_Desk_back gb_Desk_back 2 (some .boolean) ∈ gt_T := gt_m6 (List.mem_of_getElem? (i := 17) rfl) rfl
theorem gm_Desk_back : gw_Mth gy_Desk_back gb_Desk_back 2 (some .boolean) 0 := ⟨gk_787, gk_361, ⟨by decide +kernel, by decide +kernel⟩, by decide +kernel⟩
theorem gd_Desk_back_0 : decode gb_Desk_back 0 = .ok (.iconst 0, 1) := by decide +kernel
theorem gd_Desk_back_1 : decode gb_Desk_back 1 = .ok (.istore_n 1, 1) := by decide +kernel
theorem gd_Desk_back_2 : decode gb_Desk_back 2 = .ok (.iload_n 1, 1) := by decide +kernel
theorem gd_Desk_back_3 : decode gb_Desk_back 3 = .ok (.bipush 12, 2) := by decide +kernel
theorem gd_Desk_back_5 : decode gb_Desk_back 5 = .ok (.if_icmp .ge 38, 3) := by decide +kernel
theorem gd_Desk_back_8 : decode gb_Desk_back 8 = .ok (.aload_n 0, 1) := by decide +kernel
theorem gd_Desk_back_9 : decode gb_Desk_back 9 = .ok (.getfield 42, 3) := by decide +kernel
theorem gd_Desk_back_12 : decode gb_Desk_back 12 = .ok (.iload_n 1, 1) := by decide +kernel
theorem gd_Desk_back_13 : decode gb_Desk_back 13 = .ok (.iaload, 1) := by decide +kernel
theorem gd_Desk_back_14 : decode gb_Desk_back 14 = .ok (.iconst (-1), 1) := by decide +kernel
theorem gd_Desk_back_15 : decode gb_Desk_back 15 = .ok (.if_icmp .eq 22, 3) := by decide +kernel
theorem gd_Desk_back_18 : decode gb_Desk_back 18 = .ok (.aload_n 0, 1) := by decide +kernel
theorem gd_Desk_back_19 : decode gb_Desk_back 19 = .ok (.getfield 71, 3) := by decide +kernel
theorem gd_Desk_back_22 : decode gb_Desk_back 22 = .ok (.getfield 181, 3) := by decide +kernel
theorem gd_Desk_back_25 : decode gb_Desk_back 25 = .ok (.aload_n 0, 1) := by decide +kernel
theorem gd_Desk_back_26 : decode gb_Desk_back 26 = .ok (.getfield 42, 3) := by decide +kernel
theorem gd_Desk_back_29 : decode gb_Desk_back 29 = .ok (.iload_n 1, 1) := by decide +kernel
theorem gd_Desk_back_30 : decode gb_Desk_back 30 = .ok (.iaload, 1) := by decide +kernel
theorem gd_Desk_back_31 : decode gb_Desk_back 31 = .ok (.baload, 1) := by decide +kernel
theorem gd_Desk_back_32 : decode gb_Desk_back 32 = .ok (.ifCond .ne 5, 3) := by decide +kernel
theorem gd_Desk_back_35 : decode gb_Desk_back 35 = .ok (.iconst 0, 1) := by decide +kernel
theorem gd_Desk_back_36 : decode gb_Desk_back 36 = .ok (.ireturn, 1) := by decide +kernel
theorem gd_Desk_back_37 : decode gb_Desk_back 37 = .ok (.iinc 1 1, 3) := by decide +kernel
theorem gd_Desk_back_40 : decode gb_Desk_back 40 = .ok (.goto (-38), 3) := by decide +kernel
theorem gd_Desk_back_43 : decode gb_Desk_back 43 = .ok (.aload_n 0, 1) := by decide +kernel
theorem gd_Desk_back_44 : decode gb_Desk_back 44 = .ok (.getfield 38, 3) := by decide +kernel
theorem gd_Desk_back_47 : decode gb_Desk_back 47 = .ok (.invokevirtual 213, 3) := by decide +kernel
theorem gd_Desk_back_50 : decode gb_Desk_back 50 = .ok (.iconst 0, 1) := by decide +kernel
theorem gd_Desk_back_51 : decode gb_Desk_back 51 = .ok (.istore_n 1, 1) := by decide +kernel
theorem gd_Desk_back_52 : decode gb_Desk_back 52 = .ok (.iload_n 1, 1) := by decide +kernel
theorem gd_Desk_back_53 : decode gb_Desk_back 53 = .ok (.bipush 12, 2) := by decide +kernel
theorem gd_Desk_back_55 : decode gb_Desk_back 55 = .ok (.if_icmp .ge 40, 3) := by decide +kernel
theorem gd_Desk_back_58 : decode gb_Desk_back 58 = .ok (.aload_n 0, 1) := by decide +kernel
theorem gd_Desk_back_59 : decode gb_Desk_back 59 = .ok (.getfield 42, 3) := by decide +kernel
theorem gd_Desk_back_62 : decode gb_Desk_back 62 = .ok (.iload_n 1, 1) := by decide +kernel
theorem gd_Desk_back_63 : decode gb_Desk_back 63 = .ok (.iaload, 1) := by decide +kernel
theorem gd_Desk_back_64 : decode gb_Desk_back 64 = .ok (.iconst (-1), 1) := by decide +kernel
theorem gd_Desk_back_65 : decode gb_Desk_back 65 = .ok (.if_icmp .eq 24, 3) := by decide +kernel
theorem gd_Desk_back_68 : decode gb_Desk_back 68 = .ok (.aload_n 0, 1) := by decide +kernel
theorem gd_Desk_back_69 : decode gb_Desk_back 69 = .ok (.getfield 38, 3) := by decide +kernel
theorem gd_Desk_back_72 : decode gb_Desk_back 72 = .ok (.aload_n 0, 1) := by decide +kernel
theorem gd_Desk_back_73 : decode gb_Desk_back 73 = .ok (.getfield 71, 3) := by decide +kernel
theorem gd_Desk_back_76 : decode gb_Desk_back 76 = .ok (.getfield 185, 3) := by decide +kernel
theorem gd_Desk_back_79 : decode gb_Desk_back 79 = .ok (.aload_n 0, 1) := by decide +kernel
theorem gd_Desk_back_80 : decode gb_Desk_back 80 = .ok (.getfield 42, 3) := by decide +kernel
theorem gd_Desk_back_83 : decode gb_Desk_back 83 = .ok (.iload_n 1, 1) := by decide +kernel
theorem gd_Desk_back_84 : decode gb_Desk_back 84 = .ok (.iaload, 1) := by decide +kernel
theorem gd_Desk_back_85 : decode gb_Desk_back 85 = .ok (.aaload, 1) := by decide +kernel
theorem gd_Desk_back_86 : decode gb_Desk_back 86 = .ok (.invokevirtual 216, 3) := by decide +kernel
theorem gd_Desk_back_89 : decode gb_Desk_back 89 = .ok (.iinc 1 1, 3) := by decide +kernel
theorem gd_Desk_back_92 : decode gb_Desk_back 92 = .ok (.goto (-40), 3) := by decide +kernel
theorem gd_Desk_back_95 : decode gb_Desk_back 95 = .ok (.aload_n 0, 1) := by decide +kernel
theorem gd_Desk_back_96 : decode gb_Desk_back 96 = .ok (.getfield 38, 3) := by decide +kernel
theorem gd_Desk_back_99 : decode gb_Desk_back 99 = .ok (.invokevirtual 220, 3) := by decide +kernel
theorem gd_Desk_back_102 : decode gb_Desk_back 102 = .ok (.ifCond .ne 5, 3) := by decide +kernel
theorem gd_Desk_back_105 : decode gb_Desk_back 105 = .ok (.iconst 0, 1) := by decide +kernel
theorem gd_Desk_back_106 : decode gb_Desk_back 106 = .ok (.ireturn, 1) := by decide +kernel
theorem gd_Desk_back_107 : decode gb_Desk_back 107 = .ok (.aload_n 0, 1) := by decide +kernel
theorem gd_Desk_back_108 : decode gb_Desk_back 108 = .ok (.invokevirtual 206, 3) := by decide +kernel
theorem gd_Desk_back_111 : decode gb_Desk_back 111 = .ok (.iconst 1, 1) := by decide +kernel
theorem gd_Desk_back_112 : decode gb_Desk_back 112 = .ok (.ireturn, 1) := by decide +kernel
def gf_Desk_back_b37 (F : Nat) (z : gw_Sh) (rc_2 : gw_St → Nat → Int32 → Option ((Int32 ⊕ Nat) × gw_St)) (u : gw_St) (t0 : Nat) (x1 : Int32) : Option ((Int32 ⊕ Nat) × gw_St) :=
  gf_nm (x1 + 1) fun a1 => rc_2 u t0 a1
def gf_Desk_back_b89 (F : Nat) (z : gw_Sh) (rc_52 : gw_St → Nat → Int32 → Option ((Int32 ⊕ Nat) × gw_St)) (u : gw_St) (t0 : Nat) (x1 : Int32) : Option ((Int32 ⊕ Nat) × gw_St) :=
  gf_nm (x1 + 1) fun a3 => rc_52 u t0 a3
def gf_Desk_back_S52 (F : Nat) (z : gw_Sh)  (rc_52 : gw_St → Nat → Int32 → Option ((Int32 ⊕ Nat) × gw_St)) (u : gw_St) (t0 : Nat) (x1 : Int32) : Option ((Int32 ⊕ Nat) × gw_St) :=
  if (12 : Int32) ≤ x1 then (gf_nn (u.2.2 t0 3) fun q6 => gf_cl (gf_Hands_anyReturns F z u q6) fun a10 u8 => if a10 = 0 then (if ¬ ((0 : Int32) &&& 1 = (0 : Int32)) then none else some (.inl (0 : Int32), u8)) else (gf_ct (gf_Desk_keepFound F z u8 t0) fun a14 u12 => if ¬ ((1 : Int32) &&& 1 = (1 : Int32)) then none else some (.inl (1 : Int32), u12))) else (gf_nn (u.2.2 t0 4) fun q18 => if (x1 < 0 ∨ z.2.2 q18 ≤ (x1).toNatClampNeg) then none else if (u.1 q18 (x1).toNatClampNeg) = (-1 : Int32) then (gf_Desk_back_b89 F z rc_52 u t0 x1) else (gf_nn (u.2.2 t0 3) fun q22 => gf_nn (u.2.2 t0 7) fun q24 => gf_nn (u.2.2 q24 1) fun q26 => gf_nn (u.2.2 t0 4) fun q28 => if (x1 < 0 ∨ z.2.2 q28 ≤ (x1).toNatClampNeg) then none else if ((u.1 q28 (x1).toNatClampNeg) < 0 ∨ z.2.2 q26 ≤ ((u.1 q28 (x1).toNatClampNeg)).toNatClampNeg) then none else gf_nn (u.2.2 q26 ((u.1 q28 (x1).toNatClampNeg)).toNatClampNeg) fun q32 => (gf_Hands_alsoReturn F z u q22 q32).bind fun u34 => gf_Desk_back_b89 F z rc_52 u34 t0 x1))
def gf_Desk_back_L52 (F : Nat) (z : gw_Sh)  : Nat → gw_St → Nat → Int32 → Option ((Int32 ⊕ Nat) × gw_St)
  | 0 => fun _ _ _ => none
  | n + 1 => fun u t0 x1 => gf_Desk_back_S52 F z  (gf_Desk_back_L52 F z  n) u t0 x1
def gf_Desk_back_S2 (F : Nat) (z : gw_Sh)  (rc_2 : gw_St → Nat → Int32 → Option ((Int32 ⊕ Nat) × gw_St)) (u : gw_St) (t0 : Nat) (x1 : Int32) : Option ((Int32 ⊕ Nat) × gw_St) :=
  if (12 : Int32) ≤ x1 then (gf_nn (u.2.2 t0 3) fun q37 => (gf_Hands_beginReturn F z u q37).bind fun u39 => gf_Desk_back_L52 F z  F u39 t0 0) else (gf_nn (u.2.2 t0 4) fun q41 => if (x1 < 0 ∨ z.2.2 q41 ≤ (x1).toNatClampNeg) then none else if (u.1 q41 (x1).toNatClampNeg) = (-1 : Int32) then (gf_Desk_back_b37 F z rc_2 u t0 x1) else (gf_nn (u.2.2 t0 7) fun q45 => gf_nn (u.2.2 q45 0) fun q47 => gf_nn (u.2.2 t0 4) fun q49 => if (x1 < 0 ∨ z.2.2 q49 ≤ (x1).toNatClampNeg) then none else if ((u.1 q49 (x1).toNatClampNeg) < 0 ∨ z.2.2 q47 ≤ ((u.1 q49 (x1).toNatClampNeg)).toNatClampNeg) then none else if (u.1 q47 ((u.1 q49 (x1).toNatClampNeg)).toNatClampNeg) = 0 then (if ¬ ((0 : Int32) &&& 1 = (0 : Int32)) then none else some (.inl (0 : Int32), u)) else (gf_Desk_back_b37 F z rc_2 u t0 x1)))
def gf_Desk_back_L2 (F : Nat) (z : gw_Sh)  : Nat → gw_St → Nat → Int32 → Option ((Int32 ⊕ Nat) × gw_St)
  | 0 => fun _ _ _ => none
  | n + 1 => fun u t0 x1 => gf_Desk_back_S2 F z  (gf_Desk_back_L2 F z  n) u t0 x1
def gf_Desk_back_b0 (F : Nat) (z : gw_Sh)  (u : gw_St) (t0 : Nat) : Option ((Int32 ⊕ Nat) × gw_St) :=
  gf_Desk_back_L2 F z  F u t0 0
def gf_Desk_back (F : Nat) (z : gw_Sh) (u : gw_St) (t0 : Nat) : Option ((Int32 ⊕ Nat) × gw_St) := gf_Desk_back_b0 F z  u t0
set_option maxHeartbeats 4000000 in
set_option maxRecDepth 20000 in
theorem gx_Desk_back_b37 {p : Program} {l : Launch} {e : Env} {s : State} {m : MethodId} {args : Array Value} {below : List Frame} {meth : Method} {c : Code} {D : va_G} {cA : Nat → ClassId} {hs : Nat → Nat} {z : gw_Sh} (F : Nat) {r0 : ((Int32 ⊕ Nat) × gw_St)} (C : gw_Cx p s m args c gb_Desk_back 2 R_Desk D cA) (hr : meth.sig.returnType = (some .boolean)) (hk : meth.locks = false) {R : Room} (hR : 7 ≤ R.frames ∧ 184 ≤ R.locals) (hfl : l.flags = pinnedFlags ++ [noTraceFlag]) (hne : c.exceptionTable.isEmpty = true) (hX : xt_Ok e s R hs z r0) {rc_2 : gw_St → Nat → Int32 → Option ((Int32 ⊕ Nat) × gw_St)} (k_2 : ∀ (u : gw_St) (t0 : Nat) (x1 : Int32) (H : Heap) (locs : List Loc) (ls : Array Slot), gw_ok z t0 0 → gw_Wx D cA hs z s u H locs → lv_has ls 2 [(0, .ref (hs t0)), (1, .int x1)] → rc_2 u t0 x1 = some r0 → gw_Ti p l e R s m args below meth c D cA hs z r0 H locs ls 2 []) (u : gw_St) (t0 : Nat) (x1 : Int32) (o_t0 : gw_ok z t0 0) {H : Heap} {locs : List Loc} {ls : Array Slot} (hW : gw_Wx D cA hs z s u H locs) (hl : lv_has ls 2 [(0, .ref (hs t0)), (1, .int x1)]) (h : gf_Desk_back_b37 F z rc_2  u t0 x1 = some r0) : gw_Ti p l e R s m args below meth c D cA hs z r0 H locs ls 37 [] := by
  obtain ⟨hx, hb, hml, hown, hts, hK⟩ := id C
  unfold gf_Desk_back_b37 at h
  obtain ⟨a1, e2⟩ : ∃ y : Int32, y = x1 + 1 := ⟨_, rfl⟩
  have h := gf_nm_ok e2 h
  refine lv_iinc (v := a1) (lv' := [(1, .int a1), (0, .ref (hs t0))]) hx hb gd_Desk_back_37 hl (k := 1) rfl (by rw [e2]; rfl) (by decide) rfl (fun ls hl => ?_)
  refine lv_goto (tgt := 2) hx hb gd_Desk_back_40 (by decide) ?_
  exact k_2 u t0 a1 _ _ _ o_t0 hW (lv_sub hl [1, 0] rfl) h

set_option maxHeartbeats 4000000 in
set_option maxRecDepth 20000 in
theorem gx_Desk_back_b89 {p : Program} {l : Launch} {e : Env} {s : State} {m : MethodId} {args : Array Value} {below : List Frame} {meth : Method} {c : Code} {D : va_G} {cA : Nat → ClassId} {hs : Nat → Nat} {z : gw_Sh} (F : Nat) {r0 : ((Int32 ⊕ Nat) × gw_St)} (C : gw_Cx p s m args c gb_Desk_back 2 R_Desk D cA) (hr : meth.sig.returnType = (some .boolean)) (hk : meth.locks = false) {R : Room} (hR : 7 ≤ R.frames ∧ 184 ≤ R.locals) (hfl : l.flags = pinnedFlags ++ [noTraceFlag]) (hne : c.exceptionTable.isEmpty = true) (hX : xt_Ok e s R hs z r0) {rc_52 : gw_St → Nat → Int32 → Option ((Int32 ⊕ Nat) × gw_St)} (k_52 : ∀ (u : gw_St) (t0 : Nat) (x1 : Int32) (H : Heap) (locs : List Loc) (ls : Array Slot), gw_ok z t0 0 → gw_Wx D cA hs z s u H locs → lv_has ls 2 [(0, .ref (hs t0)), (1, .int x1)] → rc_52 u t0 x1 = some r0 → gw_Ti p l e R s m args below meth c D cA hs z r0 H locs ls 52 []) (u : gw_St) (t0 : Nat) (x1 : Int32) (o_t0 : gw_ok z t0 0) {H : Heap} {locs : List Loc} {ls : Array Slot} (hW : gw_Wx D cA hs z s u H locs) (hl : lv_has ls 2 [(0, .ref (hs t0)), (1, .int x1)]) (h : gf_Desk_back_b89 F z rc_52  u t0 x1 = some r0) : gw_Ti p l e R s m args below meth c D cA hs z r0 H locs ls 89 [] := by
  obtain ⟨hx, hb, hml, hown, hts, hK⟩ := id C
  unfold gf_Desk_back_b89 at h
  obtain ⟨a3, e4⟩ : ∃ y : Int32, y = x1 + 1 := ⟨_, rfl⟩
  have h := gf_nm_ok e4 h
  refine lv_iinc (v := a3) (lv' := [(1, .int a3), (0, .ref (hs t0))]) hx hb gd_Desk_back_89 hl (k := 1) rfl (by rw [e4]; rfl) (by decide) rfl (fun ls hl => ?_)
  refine lv_goto (tgt := 52) hx hb gd_Desk_back_92 (by decide) ?_
  exact k_52 u t0 a3 _ _ _ o_t0 hW (lv_sub hl [1, 0] rfl) h

set_option maxHeartbeats 4000000 in
set_option maxRecDepth 20000 in
theorem gx_Desk_back_S52 {p : Program} {l : Launch} {e : Env} {s : State} {m : MethodId} {args : Array Value} {below : List Frame} {meth : Method} {c : Code} {D : va_G} {cA : Nat → ClassId} {hs : Nat → Nat} {z : gw_Sh} (F : Nat) {r0 : ((Int32 ⊕ Nat) × gw_St)} (C : gw_Cx p s m args c gb_Desk_back 2 R_Desk D cA) (hr : meth.sig.returnType = (some .boolean)) (hk : meth.locks = false) {R : Room} (hR : 7 ≤ R.frames ∧ 184 ≤ R.locals) (hfl : l.flags = pinnedFlags ++ [noTraceFlag]) (hne : c.exceptionTable.isEmpty = true) (hX : xt_Ok e s R hs z r0) {rc_52 : gw_St → Nat → Int32 → Option ((Int32 ⊕ Nat) × gw_St)} (k_52 : ∀ (u : gw_St) (t0 : Nat) (x1 : Int32) (H : Heap) (locs : List Loc) (ls : Array Slot), gw_ok z t0 0 → gw_Wx D cA hs z s u H locs → lv_has ls 2 [(0, .ref (hs t0)), (1, .int x1)] → rc_52 u t0 x1 = some r0 → gw_Ti p l e R s m args below meth c D cA hs z r0 H locs ls 52 []) (u : gw_St) (t0 : Nat) (x1 : Int32) (o_t0 : gw_ok z t0 0) {H : Heap} {locs : List Loc} {ls : Array Slot} (hW : gw_Wx D cA hs z s u H locs) (hl : lv_has ls 2 [(0, .ref (hs t0)), (1, .int x1)]) (h : gf_Desk_back_S52 F z  rc_52 u t0 x1 = some r0) : gw_Ti p l e R s m args below meth c D cA hs z r0 H locs ls 52 [] := by
  obtain ⟨hx, hb, hml, hown, hts, hK⟩ := id C
  unfold gf_Desk_back_S52 at h
  refine lv_iload_n hx hb gd_Desk_back_52 rfl (lv_at hl 1 rfl) ?_
  refine lv_bipush (v := 12) hx hb gd_Desk_back_53 (by decide) ?_
  refine lv_icmp_ge (tgt := 95) hx hb gd_Desk_back_55 (by decide) (fun c5 => ?_) (fun c5 => ?_)
  · have h := gf_t c5 h
    refine lv_aload_n hx hb gd_Desk_back_95 rfl (lv_at hl 0 rfl) ?_
    obtain ⟨q6, e7, h⟩ := gf_nn_ok h
    refine gw_getr (k := 3) (ty := 5) (ref := R_Desk) C hW o_t0 (by decide) rfl gi_Desk rfl (by decide) rfl rfl gk_758 gd_Desk_back_96 e7 ?_
    have o_q6 := hW.ref (d := 5) o_t0 e7 rfl
    obtain ⟨a10, u8, d9, h⟩ := gf_cl_ok h
    refine gw_callVi (K := R_Hands) (As := []) (rest := []) C hW (fun _ h => Or.inr h) hl.1 gm_Hands_anyReturns (gc_Hands_anyReturns l F o_q6 d9 _) gk_778 gk_779 gk_780 o_q6 (by decide) rfl rfl rfl ⟨(Nat.le_trans (m := 7) (Nat.le_of_ble_eq_true rfl) hR.1), (Nat.le_trans (m := 184) (Nat.le_of_ble_eq_true rfl) hR.2)⟩ ⟨Nat.zero_le _, Nat.zero_le _⟩ rfl rfl (Nat.le_of_ble_eq_true rfl) gd_Desk_back_99 (fun H locs hW => ?_)
    refine lv_if_ne (tgt := 107) hx hb gd_Desk_back_102 (by decide) (fun c11 => ?_) (fun c11 => ?_)
    · have h := gf_f c11 h
      refine lv_aload_n hx hb gd_Desk_back_107 rfl (lv_at hl 0 rfl) ?_
      rcases gf_ct_ok h with ⟨k15, u12, d13, rfl⟩ | ⟨a14, u12, d13, h⟩
      · have hX9 : e.platform.stackTraces = false ∧ xt_Zs (gw_A hs z s.heap.size) s s.heap ∧ 1 ≤ R.cells ∧ 6 ≤ R.slots := hX
        exact xt_prop (K := R_Desk) (As := []) (rest := []) C hW (fun _ h => Or.inr h) hX9.2.1 hl.1 hk hne gm_Desk_keepFound (gt_Desk_keepFound l hfl F o_t0 d13 _) gk_770 gk_771 gk_772 o_t0 (by decide) rfl rfl rfl ⟨(Nat.le_trans (m := 7) (Nat.le_of_ble_eq_true rfl) hR.1), (Nat.le_trans (m := 184) (Nat.le_of_ble_eq_true rfl) hR.2)⟩ hX9.2.2 rfl rfl (Nat.le_of_ble_eq_true rfl) gd_Desk_back_108
      refine gw_callVv (K := R_Desk) (As := []) (rest := []) C hW (fun _ h => Or.inr h) hl.1 gm_Desk_keepFound (gc_Desk_keepFound l hfl F o_t0 d13 _) gk_770 gk_771 gk_772 o_t0 (by decide) rfl rfl rfl ⟨(Nat.le_trans (m := 7) (Nat.le_of_ble_eq_true rfl) hR.1), (Nat.le_trans (m := 184) (Nat.le_of_ble_eq_true rfl) hR.2)⟩ ⟨Nat.zero_le _, Nat.zero_le _⟩ rfl rfl (Nat.le_of_ble_eq_true rfl) gd_Desk_back_108 (fun H locs hW => ?_)
      refine lv_iconst (v := 1) hx hb gd_Desk_back_111 (by decide) ?_
      obtain ⟨g16, h⟩ := gf_if_ok h
      obtain rfl := Option.some.inj h
      exact gw_zret C hW hr (Decidable.not_not.mp g16) hk gd_Desk_back_112
    · have h := gf_t c11 h
      refine lv_iconst (v := 0) hx hb gd_Desk_back_105 (by decide) ?_
      obtain ⟨g17, h⟩ := gf_if_ok h
      obtain rfl := Option.some.inj h
      exact gw_zret C hW hr (Decidable.not_not.mp g17) hk gd_Desk_back_106
  · have h := gf_f c5 h
    refine lv_aload_n hx hb gd_Desk_back_58 rfl (lv_at hl 0 rfl) ?_
    obtain ⟨q18, e19, h⟩ := gf_nn_ok h
    refine gw_getr (k := 4) (ty := 10) (ref := R_Desk) C hW o_t0 (by decide) rfl gi_Desk rfl (by decide) rfl rfl gk_359 gd_Desk_back_59 e19 ?_
    have o_q18 := hW.ref (d := 10) o_t0 e19 rfl
    refine lv_iload_n hx hb gd_Desk_back_62 rfl (lv_at hl 1 rfl) ?_
    obtain ⟨g20, h⟩ := gf_if_ok h
    refine gw_iald C hW o_q18 g20 gd_Desk_back_63 ?_
    refine lv_iconst (v := (-1)) hx hb gd_Desk_back_64 (by decide) ?_
    refine lv_icmp_eq (tgt := 89) hx hb gd_Desk_back_65 (by decide) (fun c21 => ?_) (fun c21 => ?_)
    · have h := gf_t c21 h
      exact gx_Desk_back_b89 F C hr hk hR hfl hne hX k_52 u t0 x1 o_t0 hW (lv_sub hl [0, 1] rfl) h
    · have h := gf_f c21 h
      refine lv_aload_n hx hb gd_Desk_back_68 rfl (lv_at hl 0 rfl) ?_
      obtain ⟨q22, e23, h⟩ := gf_nn_ok h
      refine gw_getr (k := 3) (ty := 5) (ref := R_Desk) C hW o_t0 (by decide) rfl gi_Desk rfl (by decide) rfl rfl gk_758 gd_Desk_back_69 e23 ?_
      have o_q22 := hW.ref (d := 5) o_t0 e23 rfl
      refine lv_aload_n hx hb gd_Desk_back_72 rfl (lv_at hl 0 rfl) ?_
      obtain ⟨q24, e25, h⟩ := gf_nn_ok h
      refine gw_getr (k := 7) (ty := 3) (ref := R_Desk) C hW o_t0 (by decide) rfl gi_Desk rfl (by decide) rfl rfl gk_357 gd_Desk_back_73 e25 ?_
      have o_q24 := hW.ref (d := 3) o_t0 e25 rfl
      obtain ⟨q26, e27, h⟩ := gf_nn_ok h
      refine gw_getr (k := 1) (ty := 13) (ref := R_Speeds) C hW o_q24 (by decide) rfl gi_Speeds rfl (by decide) rfl rfl gk_748 gd_Desk_back_76 e27 ?_
      have o_q26 := hW.ref (d := 13) o_q24 e27 rfl
      refine lv_aload_n hx hb gd_Desk_back_79 rfl (lv_at hl 0 rfl) ?_
      obtain ⟨q28, e29, h⟩ := gf_nn_ok h
      refine gw_getr (k := 4) (ty := 10) (ref := R_Desk) C hW o_t0 (by decide) rfl gi_Desk rfl (by decide) rfl rfl gk_359 gd_Desk_back_80 e29 ?_
      have o_q28 := hW.ref (d := 10) o_t0 e29 rfl
      refine lv_iload_n hx hb gd_Desk_back_83 rfl (lv_at hl 1 rfl) ?_
      obtain ⟨g30, h⟩ := gf_if_ok h
      refine gw_iald C hW o_q28 g30 gd_Desk_back_84 ?_
      obtain ⟨g31, h⟩ := gf_if_ok h
      obtain ⟨q32, e33, h⟩ := gf_nn_ok h
      refine gw_aald C hW o_q26 g31 gd_Desk_back_85 e33 ?_
      have o_q32 := hW.ref (d := 6) o_q26 e33 rfl
      obtain ⟨u34, d35, h⟩ := gf_bd_ok h
      refine gw_callVv (K := R_Hands) (As := [.ref (hs q32)]) (rest := []) C hW (fun _ h => Or.inr h) hl.1 gm_Hands_alsoReturn (gc_Hands_alsoReturn l F o_q22 o_q32 d35 _) gk_781 gk_782 gk_783 o_q22 (by decide) rfl rfl rfl ⟨(Nat.le_trans (m := 7) (Nat.le_of_ble_eq_true rfl) hR.1), (Nat.le_trans (m := 184) (Nat.le_of_ble_eq_true rfl) hR.2)⟩ ⟨Nat.zero_le _, Nat.zero_le _⟩ rfl rfl (Nat.le_of_ble_eq_true rfl) gd_Desk_back_86 (fun H locs hW => ?_)
      exact gx_Desk_back_b89 F C hr hk hR hfl hne hX k_52 u34 t0 x1 o_t0 hW (lv_sub hl [0, 1] rfl) h
set_option maxHeartbeats 4000000 in
set_option maxRecDepth 20000 in
theorem gx_Desk_back_L52 {p : Program} {l : Launch} {e : Env} {s : State} {m : MethodId} {args : Array Value} {below : List Frame} {meth : Method} {c : Code} {D : va_G} {cA : Nat → ClassId} {hs : Nat → Nat} {z : gw_Sh} (F : Nat) {r0 : ((Int32 ⊕ Nat) × gw_St)} (C : gw_Cx p s m args c gb_Desk_back 2 R_Desk D cA) (hr : meth.sig.returnType = (some .boolean)) (hk : meth.locks = false) {R : Room} (hR : 7 ≤ R.frames ∧ 184 ≤ R.locals) (hfl : l.flags = pinnedFlags ++ [noTraceFlag]) (hne : c.exceptionTable.isEmpty = true) (hX : xt_Ok e s R hs z r0) : ∀ (n : Nat), ∀ (u : gw_St) (t0 : Nat) (x1 : Int32) (H : Heap) (locs : List Loc) (ls : Array Slot), gw_ok z t0 0 → gw_Wx D cA hs z s u H locs → lv_has ls 2 [(0, .ref (hs t0)), (1, .int x1)] → gf_Desk_back_L52 F z  n u t0 x1 = some r0 → gw_Ti p l e R s m args below meth c D cA hs z r0 H locs ls 52 [] := by
  intro n
  induction n with
  | zero =>
    intro u t0 x1 H locs ls o_t0 hW hl h
    cases h
  | succ n ih =>
    intro u t0 x1 H locs ls o_t0 hW hl h
    exact gx_Desk_back_S52 F C hr hk hR hfl hne hX  ih u t0 x1 o_t0 hW hl h

set_option maxHeartbeats 4000000 in
set_option maxRecDepth 20000 in
theorem gx_Desk_back_S2 {p : Program} {l : Launch} {e : Env} {s : State} {m : MethodId} {args : Array Value} {below : List Frame} {meth : Method} {c : Code} {D : va_G} {cA : Nat → ClassId} {hs : Nat → Nat} {z : gw_Sh} (F : Nat) {r0 : ((Int32 ⊕ Nat) × gw_St)} (C : gw_Cx p s m args c gb_Desk_back 2 R_Desk D cA) (hr : meth.sig.returnType = (some .boolean)) (hk : meth.locks = false) {R : Room} (hR : 7 ≤ R.frames ∧ 184 ≤ R.locals) (hfl : l.flags = pinnedFlags ++ [noTraceFlag]) (hne : c.exceptionTable.isEmpty = true) (hX : xt_Ok e s R hs z r0) {rc_2 : gw_St → Nat → Int32 → Option ((Int32 ⊕ Nat) × gw_St)} (k_2 : ∀ (u : gw_St) (t0 : Nat) (x1 : Int32) (H : Heap) (locs : List Loc) (ls : Array Slot), gw_ok z t0 0 → gw_Wx D cA hs z s u H locs → lv_has ls 2 [(0, .ref (hs t0)), (1, .int x1)] → rc_2 u t0 x1 = some r0 → gw_Ti p l e R s m args below meth c D cA hs z r0 H locs ls 2 []) (u : gw_St) (t0 : Nat) (x1 : Int32) (o_t0 : gw_ok z t0 0) {H : Heap} {locs : List Loc} {ls : Array Slot} (hW : gw_Wx D cA hs z s u H locs) (hl : lv_has ls 2 [(0, .ref (hs t0)), (1, .int x1)]) (h : gf_Desk_back_S2 F z  rc_2 u t0 x1 = some r0) : gw_Ti p l e R s m args below meth c D cA hs z r0 H locs ls 2 [] := by
  obtain ⟨hx, hb, hml, hown, hts, hK⟩ := id C
  unfold gf_Desk_back_S2 at h
  refine lv_iload_n hx hb gd_Desk_back_2 rfl (lv_at hl 1 rfl) ?_
  refine lv_bipush (v := 12) hx hb gd_Desk_back_3 (by decide) ?_
  refine lv_icmp_ge (tgt := 43) hx hb gd_Desk_back_5 (by decide) (fun c36 => ?_) (fun c36 => ?_)
  · have h := gf_t c36 h
    refine lv_aload_n hx hb gd_Desk_back_43 rfl (lv_at hl 0 rfl) ?_
    obtain ⟨q37, e38, h⟩ := gf_nn_ok h
    refine gw_getr (k := 3) (ty := 5) (ref := R_Desk) C hW o_t0 (by decide) rfl gi_Desk rfl (by decide) rfl rfl gk_758 gd_Desk_back_44 e38 ?_
    have o_q37 := hW.ref (d := 5) o_t0 e38 rfl
    obtain ⟨u39, d40, h⟩ := gf_bd_ok h
    refine gw_callVv (K := R_Hands) (As := []) (rest := []) C hW (fun _ h => Or.inr h) hl.1 gm_Hands_beginReturn (gc_Hands_beginReturn l F o_q37 d40 _) gk_784 gk_785 gk_786 o_q37 (by decide) rfl rfl rfl ⟨(Nat.le_trans (m := 7) (Nat.le_of_ble_eq_true rfl) hR.1), (Nat.le_trans (m := 184) (Nat.le_of_ble_eq_true rfl) hR.2)⟩ ⟨Nat.zero_le _, Nat.zero_le _⟩ rfl rfl (Nat.le_of_ble_eq_true rfl) gd_Desk_back_47 (fun H locs hW => ?_)
    refine lv_iconst (v := 0) hx hb gd_Desk_back_50 (by decide) ?_
    refine lv_istore_n (lv' := [(1, .int 0), (0, .ref (hs t0))]) hx hb gd_Desk_back_51 rfl hl (by decide) rfl (fun ls hl => ?_)
    exact gx_Desk_back_L52 F C hr hk hR hfl hne hX  F u39 t0 0 _ _ _ o_t0 hW (lv_sub hl [1, 0] rfl) h
  · have h := gf_f c36 h
    refine lv_aload_n hx hb gd_Desk_back_8 rfl (lv_at hl 0 rfl) ?_
    obtain ⟨q41, e42, h⟩ := gf_nn_ok h
    refine gw_getr (k := 4) (ty := 10) (ref := R_Desk) C hW o_t0 (by decide) rfl gi_Desk rfl (by decide) rfl rfl gk_359 gd_Desk_back_9 e42 ?_
    have o_q41 := hW.ref (d := 10) o_t0 e42 rfl
    refine lv_iload_n hx hb gd_Desk_back_12 rfl (lv_at hl 1 rfl) ?_
    obtain ⟨g43, h⟩ := gf_if_ok h
    refine gw_iald C hW o_q41 g43 gd_Desk_back_13 ?_
    refine lv_iconst (v := (-1)) hx hb gd_Desk_back_14 (by decide) ?_
    refine lv_icmp_eq (tgt := 37) hx hb gd_Desk_back_15 (by decide) (fun c44 => ?_) (fun c44 => ?_)
    · have h := gf_t c44 h
      exact gx_Desk_back_b37 F C hr hk hR hfl hne hX k_2 u t0 x1 o_t0 hW (lv_sub hl [0, 1] rfl) h
    · have h := gf_f c44 h
      refine lv_aload_n hx hb gd_Desk_back_18 rfl (lv_at hl 0 rfl) ?_
      obtain ⟨q45, e46, h⟩ := gf_nn_ok h
      refine gw_getr (k := 7) (ty := 3) (ref := R_Desk) C hW o_t0 (by decide) rfl gi_Desk rfl (by decide) rfl rfl gk_357 gd_Desk_back_19 e46 ?_
      have o_q45 := hW.ref (d := 3) o_t0 e46 rfl
      obtain ⟨q47, e48, h⟩ := gf_nn_ok h
      refine gw_getr (k := 0) (ty := 12) (ref := R_Speeds) C hW o_q45 (by decide) rfl gi_Speeds rfl (by decide) rfl rfl gk_747 gd_Desk_back_22 e48 ?_
      have o_q47 := hW.ref (d := 12) o_q45 e48 rfl
      refine lv_aload_n hx hb gd_Desk_back_25 rfl (lv_at hl 0 rfl) ?_
      obtain ⟨q49, e50, h⟩ := gf_nn_ok h
      refine gw_getr (k := 4) (ty := 10) (ref := R_Desk) C hW o_t0 (by decide) rfl gi_Desk rfl (by decide) rfl rfl gk_359 gd_Desk_back_26 e50 ?_
      have o_q49 := hW.ref (d := 10) o_t0 e50 rfl
      refine lv_iload_n hx hb gd_Desk_back_29 rfl (lv_at hl 1 rfl) ?_
      obtain ⟨g51, h⟩ := gf_if_ok h
      refine gw_iald C hW o_q49 g51 gd_Desk_back_30 ?_
      obtain ⟨g52, h⟩ := gf_if_ok h
      refine gw_zald C hW o_q47 g52 gd_Desk_back_31 ?_
      refine lv_if_ne (tgt := 37) hx hb gd_Desk_back_32 (by decide) (fun c53 => ?_) (fun c53 => ?_)
      · have h := gf_f c53 h
        exact gx_Desk_back_b37 F C hr hk hR hfl hne hX k_2 u t0 x1 o_t0 hW (lv_sub hl [0, 1] rfl) h
      · have h := gf_t c53 h
        refine lv_iconst (v := 0) hx hb gd_Desk_back_35 (by decide) ?_
        obtain ⟨g54, h⟩ := gf_if_ok h
        obtain rfl := Option.some.inj h
        exact gw_zret C hW hr (Decidable.not_not.mp g54) hk gd_Desk_back_36
set_option maxHeartbeats 4000000 in
set_option maxRecDepth 20000 in
theorem gx_Desk_back_L2 {p : Program} {l : Launch} {e : Env} {s : State} {m : MethodId} {args : Array Value} {below : List Frame} {meth : Method} {c : Code} {D : va_G} {cA : Nat → ClassId} {hs : Nat → Nat} {z : gw_Sh} (F : Nat) {r0 : ((Int32 ⊕ Nat) × gw_St)} (C : gw_Cx p s m args c gb_Desk_back 2 R_Desk D cA) (hr : meth.sig.returnType = (some .boolean)) (hk : meth.locks = false) {R : Room} (hR : 7 ≤ R.frames ∧ 184 ≤ R.locals) (hfl : l.flags = pinnedFlags ++ [noTraceFlag]) (hne : c.exceptionTable.isEmpty = true) (hX : xt_Ok e s R hs z r0) : ∀ (n : Nat), ∀ (u : gw_St) (t0 : Nat) (x1 : Int32) (H : Heap) (locs : List Loc) (ls : Array Slot), gw_ok z t0 0 → gw_Wx D cA hs z s u H locs → lv_has ls 2 [(0, .ref (hs t0)), (1, .int x1)] → gf_Desk_back_L2 F z  n u t0 x1 = some r0 → gw_Ti p l e R s m args below meth c D cA hs z r0 H locs ls 2 [] := by
  intro n
  induction n with
  | zero =>
    intro u t0 x1 H locs ls o_t0 hW hl h
    cases h
  | succ n ih =>
    intro u t0 x1 H locs ls o_t0 hW hl h
    exact gx_Desk_back_S2 F C hr hk hR hfl hne hX  ih u t0 x1 o_t0 hW hl h

set_option maxHeartbeats 4000000 in
set_option maxRecDepth 20000 in
theorem gx_Desk_back_b0 {p : Program} {l : Launch} {e : Env} {s : State} {m : MethodId} {args : Array Value} {below : List Frame} {meth : Method} {c : Code} {D : va_G} {cA : Nat → ClassId} {hs : Nat → Nat} {z : gw_Sh} (F : Nat) {r0 : ((Int32 ⊕ Nat) × gw_St)} (C : gw_Cx p s m args c gb_Desk_back 2 R_Desk D cA) (hr : meth.sig.returnType = (some .boolean)) (hk : meth.locks = false) {R : Room} (hR : 7 ≤ R.frames ∧ 184 ≤ R.locals) (hfl : l.flags = pinnedFlags ++ [noTraceFlag]) (hne : c.exceptionTable.isEmpty = true) (hX : xt_Ok e s R hs z r0) (u : gw_St) (t0 : Nat) (o_t0 : gw_ok z t0 0) {H : Heap} {locs : List Loc} {ls : Array Slot} (hW : gw_Wx D cA hs z s u H locs) (hl : lv_has ls 2 [(0, .ref (hs t0))]) (h : gf_Desk_back_b0 F z   u t0 = some r0) : gw_Ti p l e R s m args below meth c D cA hs z r0 H locs ls 0 [] := by
  obtain ⟨hx, hb, hml, hown, hts, hK⟩ := id C
  unfold gf_Desk_back_b0 at h
  refine lv_iconst (v := 0) hx hb gd_Desk_back_0 (by decide) ?_
  refine lv_istore_n (lv' := [(1, .int 0), (0, .ref (hs t0))]) hx hb gd_Desk_back_1 rfl hl (by decide) rfl (fun ls hl => ?_)
  exact gx_Desk_back_L2 F C hr hk hR hfl hne hX  F u t0 0 _ _ _ o_t0 hW (lv_sub hl [1, 0] rfl) h

set_option maxRecDepth 20000 in
theorem gc_Desk_back (l : Launch) (hfl : l.flags = pinnedFlags ++ [noTraceFlag]) {D : va_G} {cA : Nat → ClassId} {hs : Nat → Nat} {z : gw_Sh} (F : Nat) {u w : gw_St} {v : Int32} {t0 : Nat} (o_t0 : gw_ok z t0 0) (h : gf_Desk_back F z u t0 = some (.inl v, w)) (sz : Nat) : gw_Mi l gy_Desk_back gb_Desk_back 2 (some .boolean) (gw_rm 7 184) [.ref (hs t0)] D cA hs z u sz (v, w) := by
  refine xt_enter0 (by decide) (Nat.le_of_ble_eq_true rfl) ?_
  intro p e s m below meth c ls hsz C hW hr hk hne hl
  subst hsz
  exact gx_Desk_back_b0 (e := e) (hs := hs) (z := z) (R := gw_rm 7 184) (r0 := (.inl v, w)) F C hr hk ⟨Nat.le_refl _, Nat.le_refl _⟩ hfl hne trivial u t0 o_t0 hW (lv_sub hl [0] rfl) h
set_option maxRecDepth 20000 in
theorem gt_Desk_back (l : Launch) (hfl : l.flags = pinnedFlags ++ [noTraceFlag]) {D : va_G} {cA : Nat → ClassId} {hs : Nat → Nat} {z : gw_Sh} (F : Nat) {u w : gw_St} {k : Nat} {t0 : Nat} (o_t0 : gw_ok z t0 0) (h : gf_Desk_back F z u t0 = some (.inr k, w)) (sz : Nat) : gw_Mt l gy_Desk_back gb_Desk_back 2 (some .boolean) (xt_rm 7 184) [.ref (hs t0)] D cA hs z u sz k w := by
  refine xt_enter hfl (by decide) (Nat.le_of_ble_eq_true rfl) ?_
  intro p e s m below meth c ls hsz C hW hr hk hne hZ htr hl
  exact gx_Desk_back_b0 (e := e) (hs := hs) (z := z) (R := xt_rm 7 184) (r0 := (.inr k, w)) F C hr hk ⟨Nat.le_refl _, Nat.le_refl _⟩ hfl hne ⟨htr, hZ, Nat.le_refl _, Nat.le_refl _⟩ u t0 o_t0 hW (lv_sub hl [0] rfl) h
-- GearDesk.result(II)I
def gy_Desk_result : MethodName := ⟨R_Desk, "result", "(II)I"⟩
abbrev gb_Desk_result : ByteArray := prog_1_method_21_code
theorem gk_788 : Cond.code gy_Desk_result gb_Desk_result 3 (some .int) ∈ gt_T := gt_m6 (List.mem_of_getElem? (i := 38) rfl) rfl
theorem gm_Desk_result : gw_Mth gy_Desk_result gb_Desk_result 3 (some .int) 2 := ⟨gk_788, gk_361, ⟨by decide +kernel, by decide +kernel⟩, by decide +kernel⟩
theorem gd_Desk_result_0 : decode gb_Desk_result 0 = .ok (.iload_n 1, 1) := by decide +kernel
theorem gd_Desk_result_1 : decode gb_Desk_result 1 = .ok (.ifCond .lt 18, 3) := by decide +kernel
theorem gd_Desk_result_4 : decode gb_Desk_result 4 = .ok (.iload_n 1, 1) := by decide +kernel
theorem gd_Desk_result_5 : decode gb_Desk_result 5 = .ok (.iconst 1, 1) := by decide +kernel
theorem gd_Desk_result_6 : decode gb_Desk_result 6 = .ok (.if_icmp .gt 13, 3) := by decide +kernel
theorem gd_Desk_result_9 : decode gb_Desk_result 9 = .ok (.iload_n 2, 1) := by decide +kernel
theorem gd_Desk_result_10 : decode gb_Desk_result 10 = .ok (.ifCond .lt 9, 3) := by decide +kernel
theorem gd_Desk_result_13 : decode gb_Desk_result 13 = .ok (.iload_n 2, 1) := by decide +kernel
theorem gd_Desk_result_14 : decode gb_Desk_result 14 = .ok (.bipush 8, 2) := by decide +kernel
theorem gd_Desk_result_16 : decode gb_Desk_result 16 = .ok (.if_icmp .lt 11, 3) := by decide +kernel
theorem gd_Desk_result_19 : decode gb_Desk_result 19 = .ok (.new 117, 3) := by decide +kernel
theorem gd_Desk_result_22 : decode gb_Desk_result 22 = .ok (.dup, 1) := by decide +kernel
theorem gd_Desk_result_23 : decode gb_Desk_result 23 = .ok (.invokespecial 119, 3) := by decide +kernel
theorem gd_Desk_result_26 : decode gb_Desk_result 26 = .ok (.athrow, 1) := by decide +kernel
theorem gd_Desk_result_27 : decode gb_Desk_result 27 = .ok (.iload_n 1, 1) := by decide +kernel
theorem gd_Desk_result_28 : decode gb_Desk_result 28 = .ok (.ifCond .ne 17, 3) := by decide +kernel
theorem gd_Desk_result_31 : decode gb_Desk_result 31 = .ok (.aload_n 0, 1) := by decide +kernel
theorem gd_Desk_result_32 : decode gb_Desk_result 32 = .ok (.getfield 54, 3) := by decide +kernel
theorem gd_Desk_result_35 : decode gb_Desk_result 35 = .ok (.getfield 189, 3) := by decide +kernel
theorem gd_Desk_result_38 : decode gb_Desk_result 38 = .ok (.iload_n 2, 1) := by decide +kernel
theorem gd_Desk_result_39 : decode gb_Desk_result 39 = .ok (.invokevirtual 195, 3) := by decide +kernel
theorem gd_Desk_result_42 : decode gb_Desk_result 42 = .ok (.goto 14, 3) := by decide +kernel
theorem gd_Desk_result_45 : decode gb_Desk_result 45 = .ok (.aload_n 0, 1) := by decide +kernel
theorem gd_Desk_result_46 : decode gb_Desk_result 46 = .ok (.getfield 54, 3) := by decide +kernel
theorem gd_Desk_result_49 : decode gb_Desk_result 49 = .ok (.getfield 58, 3) := by decide +kernel
theorem gd_Desk_result_52 : decode gb_Desk_result 52 = .ok (.iload_n 2, 1) := by decide +kernel
theorem gd_Desk_result_53 : decode gb_Desk_result 53 = .ok (.invokevirtual 195, 3) := by decide +kernel
theorem gd_Desk_result_56 : decode gb_Desk_result 56 = .ok (.ireturn, 1) := by decide +kernel
def gf_Desk_result_b19 (F : Nat) (z : gw_Sh)  (u : gw_St)  : Option ((Int32 ⊕ Nat) × gw_St) :=
  some (.inr 3, u)
def gf_Desk_result_b56 (F : Nat) (z : gw_Sh)  (u : gw_St) (sx0 : Int32) : Option ((Int32 ⊕ Nat) × gw_St) :=
  some (.inl sx0, u)
def gf_Desk_result_b0 (F : Nat) (z : gw_Sh)  (u : gw_St) (t0 : Nat) (x1 : Int32) (x2 : Int32) : Option ((Int32 ⊕ Nat) × gw_St) :=
  if x1 < 0 then (gf_Desk_result_b19 F z  u ) else (if (1 : Int32) < x1 then (gf_Desk_result_b19 F z  u ) else (if x2 < 0 then (gf_Desk_result_b19 F z  u ) else (if x2 < (8 : Int32) then (if x1 = 0 then (gf_nn (u.2.2 t0 6) fun q13 => gf_nn (u.2.2 q13 0) fun q15 => gf_cl (gf_Whole_word F z u q15 x2) fun a19 u17 => gf_Desk_result_b56 F z  u17 a19) else (gf_nn (u.2.2 t0 6) fun q6 => gf_nn (u.2.2 q6 1) fun q8 => gf_cl (gf_Whole_word F z u q8 x2) fun a12 u10 => gf_Desk_result_b56 F z  u10 a12)) else (gf_Desk_result_b19 F z  u ))))
def gf_Desk_result (F : Nat) (z : gw_Sh) (u : gw_St) (t0 : Nat) (x1 : Int32) (x2 : Int32) : Option ((Int32 ⊕ Nat) × gw_St) := gf_Desk_result_b0 F z  u t0 x1 x2
set_option maxHeartbeats 4000000 in
set_option maxRecDepth 20000 in
theorem gx_Desk_result_b19 {p : Program} {l : Launch} {e : Env} {s : State} {m : MethodId} {args : Array Value} {below : List Frame} {meth : Method} {c : Code} {D : va_G} {cA : Nat → ClassId} {hs : Nat → Nat} {z : gw_Sh} (F : Nat) {r0 : ((Int32 ⊕ Nat) × gw_St)} (C : gw_Cx p s m args c gb_Desk_result 3 R_Desk D cA) (hr : meth.sig.returnType = (some .int)) (hk : meth.locks = false) {R : Room} (hR : 6 ≤ R.frames ∧ 120 ≤ R.locals) (hfl : l.flags = pinnedFlags ++ [noTraceFlag]) (hne : c.exceptionTable.isEmpty = true) (hX : xt_Ok e s R hs z r0) (u : gw_St)   {H : Heap} {locs : List Loc} {ls : Array Slot} (hW : gw_Wx D cA hs z s u H locs) (hl : lv_has ls 3 []) (h : gf_Desk_result_b19 F z   u  = some r0) : gw_Ti p l e R s m args below meth c D cA hs z r0 H locs ls 19 [] := by
  obtain ⟨hx, hb, hml, hown, hts, hK⟩ := id C
  unfold gf_Desk_result_b19 at h
  obtain rfl := Option.some.inj h
  have hX9 : e.platform.stackTraces = false ∧ xt_Zs (gw_A hs z s.heap.size) s s.heap ∧ 1 ≤ R.cells ∧ 6 ≤ R.slots := hX
  exact xt_throw (k := 3) C hW (fun _ h => Or.inr h) hX9.2.1 hX9.1 hl.1 hk (xt_out hne _) (by decide +kernel) xa_3 gk_680 gk_681 gk_682 gd_Desk_result_19 gd_Desk_result_22 gd_Desk_result_23 gd_Desk_result_26 (Nat.le_trans (m := 6) (Nat.le_of_ble_eq_true rfl) hR.1) (Nat.le_trans (m := 120) (Nat.le_of_ble_eq_true rfl) hR.2) hX9.2.2.1 hX9.2.2.2

set_option maxHeartbeats 4000000 in
set_option maxRecDepth 20000 in
theorem gx_Desk_result_b56 {p : Program} {l : Launch} {e : Env} {s : State} {m : MethodId} {args : Array Value} {below : List Frame} {meth : Method} {c : Code} {D : va_G} {cA : Nat → ClassId} {hs : Nat → Nat} {z : gw_Sh} (F : Nat) {r0 : ((Int32 ⊕ Nat) × gw_St)} (C : gw_Cx p s m args c gb_Desk_result 3 R_Desk D cA) (hr : meth.sig.returnType = (some .int)) (hk : meth.locks = false) {R : Room} (hR : 6 ≤ R.frames ∧ 120 ≤ R.locals) (hfl : l.flags = pinnedFlags ++ [noTraceFlag]) (hne : c.exceptionTable.isEmpty = true) (hX : xt_Ok e s R hs z r0) (u : gw_St) (sx0 : Int32)  {H : Heap} {locs : List Loc} {ls : Array Slot} (hW : gw_Wx D cA hs z s u H locs) (hl : lv_has ls 3 []) (h : gf_Desk_result_b56 F z   u sx0 = some r0) : gw_Ti p l e R s m args below meth c D cA hs z r0 H locs ls 56 [.int sx0] := by
  obtain ⟨hx, hb, hml, hown, hts, hK⟩ := id C
  unfold gf_Desk_result_b56 at h
  obtain rfl := Option.some.inj h
  exact gw_iret C hW hr hk gd_Desk_result_56

set_option maxHeartbeats 4000000 in
set_option maxRecDepth 20000 in
theorem gx_Desk_result_b0 {p : Program} {l : Launch} {e : Env} {s : State} {m : MethodId} {args : Array Value} {below : List Frame} {meth : Method} {c : Code} {D : va_G} {cA : Nat → ClassId} {hs : Nat → Nat} {z : gw_Sh} (F : Nat) {r0 : ((Int32 ⊕ Nat) × gw_St)} (C : gw_Cx p s m args c gb_Desk_result 3 R_Desk D cA) (hr : meth.sig.returnType = (some .int)) (hk : meth.locks = false) {R : Room} (hR : 6 ≤ R.frames ∧ 120 ≤ R.locals) (hfl : l.flags = pinnedFlags ++ [noTraceFlag]) (hne : c.exceptionTable.isEmpty = true) (hX : xt_Ok e s R hs z r0) (u : gw_St) (t0 : Nat) (x1 : Int32) (x2 : Int32) (o_t0 : gw_ok z t0 0) {H : Heap} {locs : List Loc} {ls : Array Slot} (hW : gw_Wx D cA hs z s u H locs) (hl : lv_has ls 3 [(0, .ref (hs t0)), (1, .int x1), (2, .int x2)]) (h : gf_Desk_result_b0 F z   u t0 x1 x2 = some r0) : gw_Ti p l e R s m args below meth c D cA hs z r0 H locs ls 0 [] := by
  obtain ⟨hx, hb, hml, hown, hts, hK⟩ := id C
  unfold gf_Desk_result_b0 at h
  refine lv_iload_n hx hb gd_Desk_result_0 rfl (lv_at hl 1 rfl) ?_
  refine lv_if_lt (tgt := 19) hx hb gd_Desk_result_1 (by decide) (fun c1 => ?_) (fun c1 => ?_)
  · have h := gf_t c1 h
    exact gx_Desk_result_b19 F C hr hk hR hfl hne hX  u   hW (lv_sub hl [] rfl) h
  · have h := gf_f c1 h
    refine lv_iload_n hx hb gd_Desk_result_4 rfl (lv_at hl 1 rfl) ?_
    refine lv_iconst (v := 1) hx hb gd_Desk_result_5 (by decide) ?_
    refine lv_icmp_gt (tgt := 19) hx hb gd_Desk_result_6 (by decide) (fun c2 => ?_) (fun c2 => ?_)
    · have h := gf_t c2 h
      exact gx_Desk_result_b19 F C hr hk hR hfl hne hX  u   hW (lv_sub hl [] rfl) h
    · have h := gf_f c2 h
      refine lv_iload_n hx hb gd_Desk_result_9 rfl (lv_at hl 2 rfl) ?_
      refine lv_if_lt (tgt := 19) hx hb gd_Desk_result_10 (by decide) (fun c3 => ?_) (fun c3 => ?_)
      · have h := gf_t c3 h
        exact gx_Desk_result_b19 F C hr hk hR hfl hne hX  u   hW (lv_sub hl [] rfl) h
      · have h := gf_f c3 h
        refine lv_iload_n hx hb gd_Desk_result_13 rfl (lv_at hl 2 rfl) ?_
        refine lv_bipush (v := 8) hx hb gd_Desk_result_14 (by decide) ?_
        refine lv_icmp_lt (tgt := 27) hx hb gd_Desk_result_16 (by decide) (fun c4 => ?_) (fun c4 => ?_)
        · have h := gf_t c4 h
          refine lv_iload_n hx hb gd_Desk_result_27 rfl (lv_at hl 1 rfl) ?_
          refine lv_if_ne (tgt := 45) hx hb gd_Desk_result_28 (by decide) (fun c5 => ?_) (fun c5 => ?_)
          · have h := gf_f c5 h
            refine lv_aload_n hx hb gd_Desk_result_45 rfl (lv_at hl 0 rfl) ?_
            obtain ⟨q6, e7, h⟩ := gf_nn_ok h
            refine gw_getr (k := 6) (ty := 6) (ref := R_Desk) C hW o_t0 (by decide) rfl gi_Desk rfl (by decide) rfl rfl gk_761 gd_Desk_result_46 e7 ?_
            have o_q6 := hW.ref (d := 6) o_t0 e7 rfl
            obtain ⟨q8, e9, h⟩ := gf_nn_ok h
            refine gw_getr (k := 1) (ty := 8) (ref := R_Fraction) C hW o_q6 (by decide) rfl gi_Fraction rfl (by decide) rfl rfl gk_749 gd_Desk_result_49 e9 ?_
            have o_q8 := hW.ref (d := 8) o_q6 e9 rfl
            refine lv_iload_n hx hb gd_Desk_result_52 rfl (lv_at hl 2 rfl) ?_
            obtain ⟨a12, u10, d11, h⟩ := gf_cl_ok h
            refine gw_callVi (K := R_Whole) (As := [.int x2]) (rest := []) C hW (fun _ h => Or.inr h) hl.1 gm_Whole_word (gc_Whole_word l F o_q8 d11 _) gk_750 gk_338 gk_339 o_q8 (by decide) rfl rfl rfl ⟨(Nat.le_trans (m := 6) (Nat.le_of_ble_eq_true rfl) hR.1), (Nat.le_trans (m := 120) (Nat.le_of_ble_eq_true rfl) hR.2)⟩ ⟨Nat.zero_le _, Nat.zero_le _⟩ rfl rfl (Nat.le_of_ble_eq_true rfl) gd_Desk_result_53 (fun H locs hW => ?_)
            exact gx_Desk_result_b56 F C hr hk hR hfl hne hX  u10 a12  hW (lv_sub hl [] rfl) h
          · have h := gf_t c5 h
            refine lv_aload_n hx hb gd_Desk_result_31 rfl (lv_at hl 0 rfl) ?_
            obtain ⟨q13, e14, h⟩ := gf_nn_ok h
            refine gw_getr (k := 6) (ty := 6) (ref := R_Desk) C hW o_t0 (by decide) rfl gi_Desk rfl (by decide) rfl rfl gk_761 gd_Desk_result_32 e14 ?_
            have o_q13 := hW.ref (d := 6) o_t0 e14 rfl
            obtain ⟨q15, e16, h⟩ := gf_nn_ok h
            refine gw_getr (k := 0) (ty := 8) (ref := R_Fraction) C hW o_q13 (by decide) rfl gi_Fraction rfl (by decide) rfl rfl gk_751 gd_Desk_result_35 e16 ?_
            have o_q15 := hW.ref (d := 8) o_q13 e16 rfl
            refine lv_iload_n hx hb gd_Desk_result_38 rfl (lv_at hl 2 rfl) ?_
            obtain ⟨a19, u17, d18, h⟩ := gf_cl_ok h
            refine gw_callVi (K := R_Whole) (As := [.int x2]) (rest := []) C hW (fun _ h => Or.inr h) hl.1 gm_Whole_word (gc_Whole_word l F o_q15 d18 _) gk_750 gk_338 gk_339 o_q15 (by decide) rfl rfl rfl ⟨(Nat.le_trans (m := 6) (Nat.le_of_ble_eq_true rfl) hR.1), (Nat.le_trans (m := 120) (Nat.le_of_ble_eq_true rfl) hR.2)⟩ ⟨Nat.zero_le _, Nat.zero_le _⟩ rfl rfl (Nat.le_of_ble_eq_true rfl) gd_Desk_result_39 (fun H locs hW => ?_)
            refine lv_goto (tgt := 56) hx hb gd_Desk_result_42 (by decide) ?_
            exact gx_Desk_result_b56 F C hr hk hR hfl hne hX  u17 a19  hW (lv_sub hl [] rfl) h
        · have h := gf_f c4 h
          exact gx_Desk_result_b19 F C hr hk hR hfl hne hX  u   hW (lv_sub hl [] rfl) h

set_option maxRecDepth 20000 in
theorem gc_Desk_result (l : Launch) (hfl : l.flags = pinnedFlags ++ [noTraceFlag]) {D : va_G} {cA : Nat → ClassId} {hs : Nat → Nat} {z : gw_Sh} (F : Nat) {u w : gw_St} {v : Int32} {t0 : Nat} {x1 : Int32} {x2 : Int32} (o_t0 : gw_ok z t0 0) (h : gf_Desk_result F z u t0 x1 x2 = some (.inl v, w)) (sz : Nat) : gw_Mi l gy_Desk_result gb_Desk_result 3 (some .int) (gw_rm 6 120) [.ref (hs t0), .int x1, .int x2] D cA hs z u sz (v, w) := by
  refine xt_enter0 (by decide) (Nat.le_of_ble_eq_true rfl) ?_
  intro p e s m below meth c ls hsz C hW hr hk hne hl
  subst hsz
  exact gx_Desk_result_b0 (e := e) (hs := hs) (z := z) (R := gw_rm 6 120) (r0 := (.inl v, w)) F C hr hk ⟨Nat.le_refl _, Nat.le_refl _⟩ hfl hne trivial u t0 x1 x2 o_t0 hW (lv_sub hl [0, 1, 2] rfl) h
set_option maxRecDepth 20000 in
theorem gt_Desk_result (l : Launch) (hfl : l.flags = pinnedFlags ++ [noTraceFlag]) {D : va_G} {cA : Nat → ClassId} {hs : Nat → Nat} {z : gw_Sh} (F : Nat) {u w : gw_St} {k : Nat} {t0 : Nat} {x1 : Int32} {x2 : Int32} (o_t0 : gw_ok z t0 0) (h : gf_Desk_result F z u t0 x1 x2 = some (.inr k, w)) (sz : Nat) : gw_Mt l gy_Desk_result gb_Desk_result 3 (some .int) (xt_rm 6 120) [.ref (hs t0), .int x1, .int x2] D cA hs z u sz k w := by
  refine xt_enter hfl (by decide) (Nat.le_of_ble_eq_true rfl) ?_
  intro p e s m below meth c ls hsz C hW hr hk hne hZ htr hl
  exact gx_Desk_result_b0 (e := e) (hs := hs) (z := z) (R := xt_rm 6 120) (r0 := (.inr k, w)) F C hr hk ⟨Nat.le_refl _, Nat.le_refl _⟩ hfl hne ⟨htr, hZ, Nat.le_refl _, Nat.le_refl _⟩ u t0 x1 x2 o_t0 hW (lv_sub hl [0, 1, 2] rfl) h
