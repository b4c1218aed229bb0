-- GearDeskLaw.want(LGearDesk;IIIII[J)I
theorem gk_866 : Cond.methodLink R_Law 7 gy_Desk_want ∈ gt_T := gt_m2 (List.mem_of_getElem? (i := 155) rfl) rfl
theorem gk_867 : Cond.instanceMethod gy_Desk_want ∈ gt_T := gt_m2 (List.mem_of_getElem? (i := 156) rfl) rfl
theorem gk_868 : Cond.selects R_Desk gy_Desk_want gy_Desk_want ∈ gt_T := gt_m2 (List.mem_of_getElem? (i := 157) rfl) rfl
theorem gk_869 : Cond.classLink R_Law 13 (xt_nm 1) ∈ gt_T := gt_m2 (List.mem_of_getElem? (i := 154) rfl) rfl
theorem gk_870 : Cond.initialized R_Law ∈ gt_T := gt_m1 (List.mem_of_getElem? (i := 0) rfl) rfl
def gy_Law_want : MethodName := ⟨R_Law, "want", "(LGearDesk;IIIII[J)I"⟩
abbrev gb_Law_want : ByteArray := method_3_code
theorem gk_871 : Cond.codeWith gy_Law_want gb_Law_want 8 (some .int) [(0, 16, 19, 13)] ∈ gt_T := gt_m2 (List.mem_of_getElem? (i := 153) rfl) rfl
theorem gm_Law_want : gw_MthW gy_Law_want gb_Law_want 8 (some .int) [(0, 16, 19, 13)] 7 := ⟨gk_871, gk_870, ⟨by decide +kernel, by decide +kernel⟩, by decide +kernel⟩
theorem gd_Law_want_0 : decode gb_Law_want 0 = .ok (.aload 6, 2) := by decide +kernel
theorem gd_Law_want_2 : decode gb_Law_want 2 = .ok (.iconst 0, 1) := by decide +kernel
theorem gd_Law_want_3 : decode gb_Law_want 3 = .ok (.aload_n 0, 1) := by decide +kernel
theorem gd_Law_want_4 : decode gb_Law_want 4 = .ok (.iload_n 1, 1) := by decide +kernel
theorem gd_Law_want_5 : decode gb_Law_want 5 = .ok (.iload_n 2, 1) := by decide +kernel
theorem gd_Law_want_6 : decode gb_Law_want 6 = .ok (.iload_n 3, 1) := by decide +kernel
theorem gd_Law_want_7 : decode gb_Law_want 7 = .ok (.iload 4, 2) := by decide +kernel
theorem gd_Law_want_9 : decode gb_Law_want 9 = .ok (.iload 5, 2) := by decide +kernel
theorem gd_Law_want_11 : decode gb_Law_want 11 = .ok (.invokevirtual 7, 3) := by decide +kernel
theorem gd_Law_want_14 : decode gb_Law_want 14 = .ok (.i2l, 1) := by decide +kernel
theorem gd_Law_want_15 : decode gb_Law_want 15 = .ok (.lastore, 1) := by decide +kernel
theorem gd_Law_want_16 : decode gb_Law_want 16 = .ok (.goto 7, 3) := by decide +kernel
theorem gd_Law_want_19 : decode gb_Law_want 19 = .ok (.astore 7, 2) := by decide +kernel
theorem gd_Law_want_21 : decode gb_Law_want 21 = .ok (.iconst 1, 1) := by decide +kernel
theorem gd_Law_want_22 : decode gb_Law_want 22 = .ok (.ireturn, 1) := by decide +kernel
theorem gd_Law_want_23 : decode gb_Law_want 23 = .ok (.iconst 0, 1) := by decide +kernel
theorem gd_Law_want_24 : decode gb_Law_want 24 = .ok (.ireturn, 1) := by decide +kernel
def gf_Law_want_b0 (F : Nat) (z : gw_Sh)  (u : gw_St) (t0 : Nat) (x1 : Int32) (x2 : Int32) (x3 : Int32) (x4 : Int32) (x5 : Int32) (t6 : Nat) : Option (Int32 × gw_St) :=
  gf_ch (gf_Desk_want F z u t0 x1 x2 x3 x4 x5) (fun k w => if k = 1 then some (1, w) else none) fun a3 u1 => if ((0 : Int32) < 0 ∨ z.2.2 t6 ≤ ((0 : Int32)).toNatClampNeg) then none else gf_nm (gw_wl u1 t6 ((0 : Int32)).toNatClampNeg ((a3).toInt64)) fun u7 => some ((0 : Int32), u7)
def gf_Law_want (F : Nat) (z : gw_Sh) (u : gw_St) (t0 : Nat) (x1 : Int32) (x2 : Int32) (x3 : Int32) (x4 : Int32) (x5 : Int32) (t6 : Nat) : Option (Int32 × gw_St) := gf_Law_want_b0 F z  u t0 x1 x2 x3 x4 x5 t6
set_option maxHeartbeats 4000000 in
set_option maxRecDepth 20000 in
theorem gx_Law_want_b0 {p : Program} {l : Launch} {e : Env} {s : State} {m : MethodId} {args : Array Value} {below : List Frame} {meth : Method} {c : Code} {D : va_G} {cA : Nat → ClassId} {hs : Nat → Nat} {z : gw_Sh} (F : Nat) {r0 : (Int32 × gw_St)} (C : gw_Cx p s m args c gb_Law_want 8 R_Law D cA) (hr : meth.sig.returnType = (some .int)) (hk : meth.locks = false) {R : Room} (hR : 7 ≤ R.frames ∧ 145 ≤ R.locals ∧ 1 ≤ R.cells ∧ 6 ≤ R.slots) (hfl : l.flags = pinnedFlags ++ [noTraceFlag]) (htb : c.exceptionTable.toList = List.map xw_e [(0, 16, 19, 13)]) (hZ : xt_Zs (gw_A hs z s.heap.size) s s.heap) (hN : xt_Nn s) (u : gw_St) (t0 : Nat) (x1 : Int32) (x2 : Int32) (x3 : Int32) (x4 : Int32) (x5 : Int32) (t6 : Nat) (o_t0 : gw_ok z t0 0) (o_t6 : gw_ok z t6 11) {H : Heap} {locs : List Loc} {ls : Array Slot} (hW : gw_Wx D cA hs z s u H locs) (hl : lv_has ls 8 [(0, .ref (hs t0)), (1, .int x1), (2, .int x2), (3, .int x3), (4, .int x4), (5, .int x5), (6, .ref (hs t6))]) (h : gf_Law_want_b0 F z   u t0 x1 x2 x3 x4 x5 t6 = some r0) : gw_Gw p l e R s m args below meth c D cA hs z r0 H locs ls 0 [] := by
  obtain ⟨hx, hb, hml, hown, hts, hK⟩ := id C
  unfold gf_Law_want_b0 at h
  refine lv_aload hx hb gd_Law_want_0 (lv_at hl 6 rfl) ?_
  refine lv_iconst (v := 0) hx hb gd_Law_want_2 (by decide) ?_
  refine lv_aload_n hx hb gd_Law_want_3 rfl (lv_at hl 0 rfl) ?_
  refine lv_iload_n hx hb gd_Law_want_4 rfl (lv_at hl 1 rfl) ?_
  refine lv_iload_n hx hb gd_Law_want_5 rfl (lv_at hl 2 rfl) ?_
  refine lv_iload_n hx hb gd_Law_want_6 rfl (lv_at hl 3 rfl) ?_
  refine lv_iload hx hb gd_Law_want_7 (lv_at hl 4 rfl) ?_
  refine lv_iload hx hb gd_Law_want_9 (lv_at hl 5 rfl) ?_
  rcases gf_ch_ok h with ⟨k4, u1, d2, h⟩ | ⟨a3, u1, d2, h⟩
  · by_cases c5 : k4 = 1
    · subst c5
      have h := gf_t rfl h
      obtain rfl := Option.some.inj h
      refine xt_catch (K := R_Desk) (As := [.int x1, .int x2, .int x3, .int x4, .int x5]) (rest := [.int (0 : Int32), .ref (hs t6)]) C hW (fun _ h => Or.inr h) hZ hl.1 gm_Desk_want (gt_Desk_want l hfl F o_t0 d2 _) gk_866 gk_867 gk_868 o_t0 (by decide) rfl rfl rfl ⟨(Nat.le_trans (m := 7) (Nat.le_of_ble_eq_true rfl) hR.1), (Nat.le_trans (m := 145) (Nat.le_of_ble_eq_true rfl) hR.2.1)⟩ ⟨hR.2.2.1, hR.2.2.2⟩ rfl rfl (Nat.le_of_ble_eq_true rfl) gd_Law_want_11 (w := xw_e (0, 16, 19, 13)) (pre := []) (more := []) htb xw_n (by decide) (by decide) gk_869 (fun x H locs hW => ?_)
      refine W.widen (k := 1) (n := 6) (by decide) (by decide) ?_
      refine lv_astore (lv' := [(7, .ref x)]) hx hb gd_Law_want_19 (lv_sub hl [] rfl) (by decide) rfl (fun ls hl => ?_)
      refine lv_iconst (v := 1) hx hb gd_Law_want_21 (by decide) ?_
      exact gw_iretW C hW hr hk gd_Law_want_22
    have h := gf_f c5 h
    cases h
  refine gw_callVi (K := R_Desk) (As := [.int x1, .int x2, .int x3, .int x4, .int x5]) (rest := [.int (0 : Int32), .ref (hs t6)]) C hW (fun _ h => Or.inr h) hl.1 gm_Desk_want (gc_Desk_want l hfl F o_t0 d2 _) gk_866 gk_867 gk_868 o_t0 (by decide) rfl rfl rfl ⟨(Nat.le_trans (m := 7) (Nat.le_of_ble_eq_true rfl) hR.1), (Nat.le_trans (m := 145) (Nat.le_of_ble_eq_true rfl) hR.2.1)⟩ ⟨Nat.zero_le _, Nat.zero_le _⟩ rfl rfl (Nat.le_of_ble_eq_true rfl) gd_Law_want_11 (fun H locs hW => ?_)
  refine lv_i2l hx hb gd_Law_want_14 rfl ?_
  obtain ⟨g6, h⟩ := gf_if_ok h
  refine gw_last C hW o_t6 g6 gd_Law_want_15 (fun u7 H locs e8 hW => ?_)
  have h := gf_nm_ok e8 h
  refine lv_goto (tgt := 23) hx hb gd_Law_want_16 (by decide) ?_
  refine lv_iconst (v := 0) hx hb gd_Law_want_23 (by decide) ?_
  obtain rfl := Option.some.inj h
  refine W.widen (k := 1) (n := 6) (by decide) (by decide) ?_
  exact gw_iretW C hW hr hk gd_Law_want_24

set_option maxRecDepth 20000 in
theorem gc_Law_want (l : Launch) (hfl : l.flags = pinnedFlags ++ [noTraceFlag]) {D : va_G} {cA : Nat → ClassId} {hs : Nat → Nat} {z : gw_Sh} (F : Nat) {u : gw_St} {r0 : Int32 × gw_St} {t0 : Nat} {x1 : Int32} {x2 : Int32} {x3 : Int32} {x4 : Int32} {x5 : Int32} {t6 : Nat} (o_t0 : gw_ok z t0 0) (o_t6 : gw_ok z t6 11) (h : gf_Law_want F z u t0 x1 x2 x3 x4 x5 t6 = some r0) (sz : Nat) : gw_Mw l gy_Law_want gb_Law_want 8 (some .int) [(0, 16, 19, 13)] (xt_rm 7 145) [.ref (hs t0), .int x1, .int x2, .int x3, .int x4, .int x5, .ref (hs t6)] D cA hs z u sz r0 := by
  refine gw_enterW (by decide) (Nat.le_of_ble_eq_true rfl) ?_
  intro p e s m below meth c ls hsz C hW hr hk htb hZ hN hl
  subst hsz
  exact gx_Law_want_b0 F C hr hk (xt_rm_ok 7 145) hfl htb hZ hN u t0 x1 x2 x3 x4 x5 t6 o_t0 o_t6 hW (lv_sub hl [0, 1, 2, 3, 4, 5, 6] rfl) h
-- GearDeskLaw.search(LGearDesk;I[J)I
theorem gk_872 : Cond.methodLink R_Law 15 gy_Desk_search ∈ gt_T := gt_m2 (List.mem_of_getElem? (i := 236) rfl) rfl
theorem gk_873 : Cond.instanceMethod gy_Desk_search ∈ gt_T := gt_m2 (List.mem_of_getElem? (i := 237) rfl) rfl
theorem gk_874 : Cond.selects R_Desk gy_Desk_search gy_Desk_search ∈ gt_T := gt_m2 (List.mem_of_getElem? (i := 238) rfl) rfl
theorem gk_875 : Cond.classLink R_Law 19 (xt_nm 2) ∈ gt_T := gt_m2 (List.mem_of_getElem? (i := 235) rfl) rfl
def gy_Law_search : MethodName := ⟨R_Law, "search", "(LGearDesk;I[J)I"⟩
abbrev gb_Law_search : ByteArray := method_4_code
theorem gk_876 : Cond.codeWith gy_Law_search gb_Law_search 4 (some .int) [(0, 16, 19, 13), (0, 16, 22, 19)] ∈ gt_T := gt_m2 (List.mem_of_getElem? (i := 234) rfl) rfl
theorem gm_Law_search : gw_MthW gy_Law_search gb_Law_search 4 (some .int) [(0, 16, 19, 13), (0, 16, 22, 19)] 3 := ⟨gk_876, gk_870, ⟨by decide +kernel, by decide +kernel⟩, by decide +kernel⟩
theorem gd_Law_search_0 : decode gb_Law_search 0 = .ok (.aload_n 2, 1) := by decide +kernel
theorem gd_Law_search_1 : decode gb_Law_search 1 = .ok (.iconst 0, 1) := by decide +kernel
theorem gd_Law_search_2 : decode gb_Law_search 2 = .ok (.aload_n 0, 1) := by decide +kernel
theorem gd_Law_search_3 : decode gb_Law_search 3 = .ok (.iload_n 1, 1) := by decide +kernel
theorem gd_Law_search_4 : decode gb_Law_search 4 = .ok (.invokevirtual 15, 3) := by decide +kernel
theorem gd_Law_search_7 : decode gb_Law_search 7 = .ok (.ifCond .eq 7, 3) := by decide +kernel
theorem gd_Law_search_10 : decode gb_Law_search 10 = .ok (.lconst 1, 1) := by decide +kernel
theorem gd_Law_search_11 : decode gb_Law_search 11 = .ok (.goto 4, 3) := by decide +kernel
theorem gd_Law_search_14 : decode gb_Law_search 14 = .ok (.lconst 0, 1) := by decide +kernel
theorem gd_Law_search_15 : decode gb_Law_search 15 = .ok (.lastore, 1) := by decide +kernel
theorem gd_Law_search_16 : decode gb_Law_search 16 = .ok (.goto 9, 3) := by decide +kernel
theorem gd_Law_search_19 : decode gb_Law_search 19 = .ok (.astore_n 3, 1) := by decide +kernel
theorem gd_Law_search_20 : decode gb_Law_search 20 = .ok (.iconst 1, 1) := by decide +kernel
theorem gd_Law_search_21 : decode gb_Law_search 21 = .ok (.ireturn, 1) := by decide +kernel
theorem gd_Law_search_22 : decode gb_Law_search 22 = .ok (.astore_n 3, 1) := by decide +kernel
theorem gd_Law_search_23 : decode gb_Law_search 23 = .ok (.iconst 2, 1) := by decide +kernel
theorem gd_Law_search_24 : decode gb_Law_search 24 = .ok (.ireturn, 1) := by decide +kernel
theorem gd_Law_search_25 : decode gb_Law_search 25 = .ok (.iconst 0, 1) := by decide +kernel
theorem gd_Law_search_26 : decode gb_Law_search 26 = .ok (.ireturn, 1) := by decide +kernel
def gf_Law_search_b15 (F : Nat) (z : gw_Sh)  (u : gw_St) (st0 : Nat) (sx1 : Int32) (sy2 : Int64) : Option (Int32 × gw_St) :=
  if (sx1 < 0 ∨ z.2.2 st0 ≤ (sx1).toNatClampNeg) then none else gf_nm (gw_wl u st0 (sx1).toNatClampNeg sy2) fun u2 => some ((0 : Int32), u2)
def gf_Law_search_b0 (F : Nat) (z : gw_Sh)  (u : gw_St) (t0 : Nat) (x1 : Int32) (t2 : Nat) : Option (Int32 × gw_St) :=
  gf_ch (gf_Desk_search F z u t0 x1) (fun k w => if k = 1 then some (1, w) else if k = 2 then some (2, w) else none) fun a6 u4 => if a6 = 0 then (gf_Law_search_b15 F z  u4 t2 0 0) else (gf_Law_search_b15 F z  u4 t2 0 1)
def gf_Law_search (F : Nat) (z : gw_Sh) (u : gw_St) (t0 : Nat) (x1 : Int32) (t2 : Nat) : Option (Int32 × gw_St) := gf_Law_search_b0 F z  u t0 x1 t2
set_option maxHeartbeats 4000000 in
set_option maxRecDepth 20000 in
theorem gx_Law_search_b15 {p : Program} {l : Launch} {e : Env} {s : State} {m : MethodId} {args : Array Value} {below : List Frame} {meth : Method} {c : Code} {D : va_G} {cA : Nat → ClassId} {hs : Nat → Nat} {z : gw_Sh} (F : Nat) {r0 : (Int32 × gw_St)} (C : gw_Cx p s m args c gb_Law_search 4 R_Law D cA) (hr : meth.sig.returnType = (some .int)) (hk : meth.locks = false) {R : Room} (hR : 8 ≤ R.frames ∧ 238 ≤ R.locals ∧ 1 ≤ R.cells ∧ 6 ≤ R.slots) (hfl : l.flags = pinnedFlags ++ [noTraceFlag]) (htb : c.exceptionTable.toList = List.map xw_e [(0, 16, 19, 13), (0, 16, 22, 19)]) (hZ : xt_Zs (gw_A hs z s.heap.size) s s.heap) (hN : xt_Nn s) (u : gw_St) (st0 : Nat) (sx1 : Int32) (sy2 : Int64) (o_st0 : gw_ok z st0 11) {H : Heap} {locs : List Loc} {ls : Array Slot} (hW : gw_Wx D cA hs z s u H locs) (hl : lv_has ls 4 []) (h : gf_Law_search_b15 F z   u st0 sx1 sy2 = some r0) : gw_Gw p l e R s m args below meth c D cA hs z r0 H locs ls 15 [.long sy2, .int sx1, .ref (hs st0)] := by
  obtain ⟨hx, hb, hml, hown, hts, hK⟩ := id C
  unfold gf_Law_search_b15 at h
  obtain ⟨g1, h⟩ := gf_if_ok h
  refine gw_last C hW o_st0 g1 gd_Law_search_15 (fun u2 H locs e3 hW => ?_)
  have h := gf_nm_ok e3 h
  refine lv_goto (tgt := 25) hx hb gd_Law_search_16 (by decide) ?_
  refine lv_iconst (v := 0) hx hb gd_Law_search_25 (by decide) ?_
  obtain rfl := Option.some.inj h
  refine W.widen (k := 1) (n := 6) (by decide) (by decide) ?_
  exact gw_iretW C hW hr hk gd_Law_search_26

set_option maxHeartbeats 4000000 in
set_option maxRecDepth 20000 in
theorem gx_Law_search_b0 {p : Program} {l : Launch} {e : Env} {s : State} {m : MethodId} {args : Array Value} {below : List Frame} {meth : Method} {c : Code} {D : va_G} {cA : Nat → ClassId} {hs : Nat → Nat} {z : gw_Sh} (F : Nat) {r0 : (Int32 × gw_St)} (C : gw_Cx p s m args c gb_Law_search 4 R_Law D cA) (hr : meth.sig.returnType = (some .int)) (hk : meth.locks = false) {R : Room} (hR : 8 ≤ R.frames ∧ 238 ≤ R.locals ∧ 1 ≤ R.cells ∧ 6 ≤ R.slots) (hfl : l.flags = pinnedFlags ++ [noTraceFlag]) (htb : c.exceptionTable.toList = List.map xw_e [(0, 16, 19, 13), (0, 16, 22, 19)]) (hZ : xt_Zs (gw_A hs z s.heap.size) s s.heap) (hN : xt_Nn s) (u : gw_St) (t0 : Nat) (x1 : Int32) (t2 : Nat) (o_t0 : gw_ok z t0 0) (o_t2 : gw_ok z t2 11) {H : Heap} {locs : List Loc} {ls : Array Slot} (hW : gw_Wx D cA hs z s u H locs) (hl : lv_has ls 4 [(0, .ref (hs t0)), (1, .int x1), (2, .ref (hs t2))]) (h : gf_Law_search_b0 F z   u t0 x1 t2 = some r0) : gw_Gw p l e R s m args below meth c D cA hs z r0 H locs ls 0 [] := by
  obtain ⟨hx, hb, hml, hown, hts, hK⟩ := id C
  unfold gf_Law_search_b0 at h
  refine lv_aload_n hx hb gd_Law_search_0 rfl (lv_at hl 2 rfl) ?_
  refine lv_iconst (v := 0) hx hb gd_Law_search_1 (by decide) ?_
  refine lv_aload_n hx hb gd_Law_search_2 rfl (lv_at hl 0 rfl) ?_
  refine lv_iload_n hx hb gd_Law_search_3 rfl (lv_at hl 1 rfl) ?_
  rcases gf_ch_ok h with ⟨k7, u4, d5, h⟩ | ⟨a6, u4, d5, h⟩
  · by_cases c8 : k7 = 1
    · subst c8
      have h := gf_t rfl h
      obtain rfl := Option.some.inj h
      refine xt_catch (K := R_Desk) (As := [.int x1]) (rest := [.int (0 : Int32), .ref (hs t2)]) C hW (fun _ h => Or.inr h) hZ hl.1 gm_Desk_search (gt_Desk_search l hfl F o_t0 d5 _) gk_872 gk_873 gk_874 o_t0 (by decide) rfl rfl rfl ⟨(Nat.le_trans (m := 8) (Nat.le_of_ble_eq_true rfl) hR.1), (Nat.le_trans (m := 238) (Nat.le_of_ble_eq_true rfl) hR.2.1)⟩ ⟨hR.2.2.1, hR.2.2.2⟩ rfl rfl (Nat.le_of_ble_eq_true rfl) gd_Law_search_4 (w := xw_e (0, 16, 19, 13)) (pre := []) (more := [xw_e (0, 16, 22, 19)]) htb xw_n (by decide) (by decide) gk_869 (fun x H locs hW => ?_)
      refine W.widen (k := 1) (n := 6) (by decide) (by decide) ?_
      refine lv_astore_n (lv' := [(3, .ref x)]) hx hb gd_Law_search_19 rfl (lv_sub hl [] rfl) (by decide) rfl (fun ls hl => ?_)
      refine lv_iconst (v := 1) hx hb gd_Law_search_20 (by decide) ?_
      exact gw_iretW C hW hr hk gd_Law_search_21
    have h := gf_f c8 h
    by_cases c9 : k7 = 2
    · subst c9
      have h := gf_t rfl h
      obtain rfl := Option.some.inj h
      refine xt_catch (K := R_Desk) (As := [.int x1]) (rest := [.int (0 : Int32), .ref (hs t2)]) C hW (fun _ h => Or.inr h) hZ hl.1 gm_Desk_search (gt_Desk_search l hfl F o_t0 d5 _) gk_872 gk_873 gk_874 o_t0 (by decide) rfl rfl rfl ⟨(Nat.le_trans (m := 8) (Nat.le_of_ble_eq_true rfl) hR.1), (Nat.le_trans (m := 238) (Nat.le_of_ble_eq_true rfl) hR.2.1)⟩ ⟨hR.2.2.1, hR.2.2.2⟩ rfl rfl (Nat.le_of_ble_eq_true rfl) gd_Law_search_4 (w := xw_e (0, 16, 22, 19)) (pre := [(xw_e (0, 16, 19, 13), xt_nm 1)]) (more := []) htb (xw_c ⟨by decide, by decide, gk_869, hN 2 (by decide) 1 (by decide) (by decide)⟩ xw_n) (by decide) (by decide) gk_875 (fun x H locs hW => ?_)
      refine W.widen (k := 1) (n := 6) (by decide) (by decide) ?_
      refine lv_astore_n (lv' := [(3, .ref x)]) hx hb gd_Law_search_22 rfl (lv_sub hl [] rfl) (by decide) rfl (fun ls hl => ?_)
      refine lv_iconst (v := 2) hx hb gd_Law_search_23 (by decide) ?_
      exact gw_iretW C hW hr hk gd_Law_search_24
    have h := gf_f c9 h
    cases h
  refine gw_callVi (K := R_Desk) (As := [.int x1]) (rest := [.int (0 : Int32), .ref (hs t2)]) C hW (fun _ h => Or.inr h) hl.1 gm_Desk_search (gc_Desk_search l hfl F o_t0 d5 _) gk_872 gk_873 gk_874 o_t0 (by decide) rfl rfl rfl ⟨(Nat.le_trans (m := 8) (Nat.le_of_ble_eq_true rfl) hR.1), (Nat.le_trans (m := 238) (Nat.le_of_ble_eq_true rfl) hR.2.1)⟩ ⟨Nat.zero_le _, Nat.zero_le _⟩ rfl rfl (Nat.le_of_ble_eq_true rfl) gd_Law_search_4 (fun H locs hW => ?_)
  refine lv_if_eq (tgt := 14) hx hb gd_Law_search_7 (by decide) (fun c10 => ?_) (fun c10 => ?_)
  · have h := gf_t c10 h
    refine lv_lconst (v := 0) hx hb gd_Law_search_14 (by decide) ?_
    exact gx_Law_search_b15 F C hr hk hR hfl htb hZ hN  u4 t2 0 0 o_t2 hW (lv_sub hl [] rfl) h
  · have h := gf_f c10 h
    refine lv_lconst (v := 1) hx hb gd_Law_search_10 (by decide) ?_
    refine lv_goto (tgt := 15) hx hb gd_Law_search_11 (by decide) ?_
    exact gx_Law_search_b15 F C hr hk hR hfl htb hZ hN  u4 t2 0 1 o_t2 hW (lv_sub hl [] rfl) h

set_option maxRecDepth 20000 in
theorem gc_Law_search (l : Launch) (hfl : l.flags = pinnedFlags ++ [noTraceFlag]) {D : va_G} {cA : Nat → ClassId} {hs : Nat → Nat} {z : gw_Sh} (F : Nat) {u : gw_St} {r0 : Int32 × gw_St} {t0 : Nat} {x1 : Int32} {t2 : Nat} (o_t0 : gw_ok z t0 0) (o_t2 : gw_ok z t2 11) (h : gf_Law_search F z u t0 x1 t2 = some r0) (sz : Nat) : gw_Mw l gy_Law_search gb_Law_search 4 (some .int) [(0, 16, 19, 13), (0, 16, 22, 19)] (xt_rm 8 238) [.ref (hs t0), .int x1, .ref (hs t2)] D cA hs z u sz r0 := by
  refine gw_enterW (by decide) (Nat.le_of_ble_eq_true rfl) ?_
  intro p e s m below meth c ls hsz C hW hr hk htb hZ hN hl
  subst hsz
  exact gx_Law_search_b0 F C hr hk (xt_rm_ok 8 238) hfl htb hZ hN u t0 x1 t2 o_t0 o_t2 hW (lv_sub hl [0, 1, 2] rfl) h
-- GearDeskLaw.tooth(LGearDesk;II[J)I
theorem gk_877 : Cond.methodLink R_Law 21 gy_Desk_tooth ∈ gt_T := gt_m4 (List.mem_of_getElem? (i := 133) rfl) rfl
theorem gk_878 : Cond.instanceMethod gy_Desk_tooth ∈ gt_T := gt_m4 (List.mem_of_getElem? (i := 134) rfl) rfl
theorem gk_879 : Cond.selects R_Desk gy_Desk_tooth gy_Desk_tooth ∈ gt_T := gt_m4 (List.mem_of_getElem? (i := 135) rfl) rfl
theorem gk_880 : Cond.classLink R_Law 25 (xt_nm 3) ∈ gt_T := gt_m4 (List.mem_of_getElem? (i := 132) rfl) rfl
def gy_Law_tooth : MethodName := ⟨R_Law, "tooth", "(LGearDesk;II[J)I"⟩
abbrev gb_Law_tooth : ByteArray := method_5_code
theorem gk_881 : Cond.codeWith gy_Law_tooth gb_Law_tooth 5 (some .int) [(0, 10, 13, 19), (0, 10, 17, 25)] ∈ gt_T := gt_m4 (List.mem_of_getElem? (i := 131) rfl) rfl
theorem gm_Law_tooth : gw_MthW gy_Law_tooth gb_Law_tooth 5 (some .int) [(0, 10, 13, 19), (0, 10, 17, 25)] 4 := ⟨gk_881, gk_870, ⟨by decide +kernel, by decide +kernel⟩, by decide +kernel⟩
theorem gd_Law_tooth_0 : decode gb_Law_tooth 0 = .ok (.aload_n 3, 1) := by decide +kernel
theorem gd_Law_tooth_1 : decode gb_Law_tooth 1 = .ok (.iconst 0, 1) := by decide +kernel
theorem gd_Law_tooth_2 : decode gb_Law_tooth 2 = .ok (.aload_n 0, 1) := by decide +kernel
theorem gd_Law_tooth_3 : decode gb_Law_tooth 3 = .ok (.iload_n 1, 1) := by decide +kernel
theorem gd_Law_tooth_4 : decode gb_Law_tooth 4 = .ok (.iload_n 2, 1) := by decide +kernel
theorem gd_Law_tooth_5 : decode gb_Law_tooth 5 = .ok (.invokevirtual 21, 3) := by decide +kernel
theorem gd_Law_tooth_8 : decode gb_Law_tooth 8 = .ok (.i2l, 1) := by decide +kernel
theorem gd_Law_tooth_9 : decode gb_Law_tooth 9 = .ok (.lastore, 1) := by decide +kernel
theorem gd_Law_tooth_10 : decode gb_Law_tooth 10 = .ok (.goto 11, 3) := by decide +kernel
theorem gd_Law_tooth_13 : decode gb_Law_tooth 13 = .ok (.astore 4, 2) := by decide +kernel
theorem gd_Law_tooth_15 : decode gb_Law_tooth 15 = .ok (.iconst 1, 1) := by decide +kernel
theorem gd_Law_tooth_16 : decode gb_Law_tooth 16 = .ok (.ireturn, 1) := by decide +kernel
theorem gd_Law_tooth_17 : decode gb_Law_tooth 17 = .ok (.astore 4, 2) := by decide +kernel
theorem gd_Law_tooth_19 : decode gb_Law_tooth 19 = .ok (.iconst 2, 1) := by decide +kernel
theorem gd_Law_tooth_20 : decode gb_Law_tooth 20 = .ok (.ireturn, 1) := by decide +kernel
theorem gd_Law_tooth_21 : decode gb_Law_tooth 21 = .ok (.iconst 0, 1) := by decide +kernel
theorem gd_Law_tooth_22 : decode gb_Law_tooth 22 = .ok (.ireturn, 1) := by decide +kernel
def gf_Law_tooth_b0 (F : Nat) (z : gw_Sh)  (u : gw_St) (t0 : Nat) (x1 : Int32) (x2 : Int32) (t3 : Nat) : Option (Int32 × gw_St) :=
  gf_ch (gf_Desk_tooth F z u t0 x1 x2) (fun k w => if k = 2 then some (1, w) else if k = 3 then some (2, w) else none) fun a3 u1 => if ((0 : Int32) < 0 ∨ z.2.2 t3 ≤ ((0 : Int32)).toNatClampNeg) then none else gf_nm (gw_wl u1 t3 ((0 : Int32)).toNatClampNeg ((a3).toInt64)) fun u8 => some ((0 : Int32), u8)
def gf_Law_tooth (F : Nat) (z : gw_Sh) (u : gw_St) (t0 : Nat) (x1 : Int32) (x2 : Int32) (t3 : Nat) : Option (Int32 × gw_St) := gf_Law_tooth_b0 F z  u t0 x1 x2 t3
set_option maxHeartbeats 4000000 in
set_option maxRecDepth 20000 in
theorem gx_Law_tooth_b0 {p : Program} {l : Launch} {e : Env} {s : State} {m : MethodId} {args : Array Value} {below : List Frame} {meth : Method} {c : Code} {D : va_G} {cA : Nat → ClassId} {hs : Nat → Nat} {z : gw_Sh} (F : Nat) {r0 : (Int32 × gw_St)} (C : gw_Cx p s m args c gb_Law_tooth 5 R_Law D cA) (hr : meth.sig.returnType = (some .int)) (hk : meth.locks = false) {R : Room} (hR : 8 ≤ R.frames ∧ 162 ≤ R.locals ∧ 1 ≤ R.cells ∧ 6 ≤ R.slots) (hfl : l.flags = pinnedFlags ++ [noTraceFlag]) (htb : c.exceptionTable.toList = List.map xw_e [(0, 10, 13, 19), (0, 10, 17, 25)]) (hZ : xt_Zs (gw_A hs z s.heap.size) s s.heap) (hN : xt_Nn s) (u : gw_St) (t0 : Nat) (x1 : Int32) (x2 : Int32) (t3 : Nat) (o_t0 : gw_ok z t0 0) (o_t3 : gw_ok z t3 11) {H : Heap} {locs : List Loc} {ls : Array Slot} (hW : gw_Wx D cA hs z s u H locs) (hl : lv_has ls 5 [(0, .ref (hs t0)), (1, .int x1), (2, .int x2), (3, .ref (hs t3))]) (h : gf_Law_tooth_b0 F z   u t0 x1 x2 t3 = some r0) : gw_Gw p l e R s m args below meth c D cA hs z r0 H locs ls 0 [] := by
  obtain ⟨hx, hb, hml, hown, hts, hK⟩ := id C
  unfold gf_Law_tooth_b0 at h
  refine lv_aload_n hx hb gd_Law_tooth_0 rfl (lv_at hl 3 rfl) ?_
  refine lv_iconst (v := 0) hx hb gd_Law_tooth_1 (by decide) ?_
  refine lv_aload_n hx hb gd_Law_tooth_2 rfl (lv_at hl 0 rfl) ?_
  refine lv_iload_n hx hb gd_Law_tooth_3 rfl (lv_at hl 1 rfl) ?_
  refine lv_iload_n hx hb gd_Law_tooth_4 rfl (lv_at hl 2 rfl) ?_
  rcases gf_ch_ok h with ⟨k4, u1, d2, h⟩ | ⟨a3, u1, d2, h⟩
  · by_cases c5 : k4 = 2
    · subst c5
      have h := gf_t rfl h
      obtain rfl := Option.some.inj h
      refine xt_catch (K := R_Desk) (As := [.int x1, .int x2]) (rest := [.int (0 : Int32), .ref (hs t3)]) C hW (fun _ h => Or.inr h) hZ hl.1 gm_Desk_tooth (gt_Desk_tooth l hfl F o_t0 d2 _) gk_877 gk_878 gk_879 o_t0 (by decide) rfl rfl rfl ⟨(Nat.le_trans (m := 8) (Nat.le_of_ble_eq_true rfl) hR.1), (Nat.le_trans (m := 162) (Nat.le_of_ble_eq_true rfl) hR.2.1)⟩ ⟨hR.2.2.1, hR.2.2.2⟩ rfl rfl (Nat.le_of_ble_eq_true rfl) gd_Law_tooth_5 (w := xw_e (0, 10, 13, 19)) (pre := []) (more := [xw_e (0, 10, 17, 25)]) htb xw_n (by decide) (by decide) gk_875 (fun x H locs hW => ?_)
      refine W.widen (k := 1) (n := 6) (by decide) (by decide) ?_
      refine lv_astore (lv' := [(4, .ref x)]) hx hb gd_Law_tooth_13 (lv_sub hl [] rfl) (by decide) rfl (fun ls hl => ?_)
      refine lv_iconst (v := 1) hx hb gd_Law_tooth_15 (by decide) ?_
      exact gw_iretW C hW hr hk gd_Law_tooth_16
    have h := gf_f c5 h
    by_cases c6 : k4 = 3
    · subst c6
      have h := gf_t rfl h
      obtain rfl := Option.some.inj h
      refine xt_catch (K := R_Desk) (As := [.int x1, .int x2]) (rest := [.int (0 : Int32), .ref (hs t3)]) C hW (fun _ h => Or.inr h) hZ hl.1 gm_Desk_tooth (gt_Desk_tooth l hfl F o_t0 d2 _) gk_877 gk_878 gk_879 o_t0 (by decide) rfl rfl rfl ⟨(Nat.le_trans (m := 8) (Nat.le_of_ble_eq_true rfl) hR.1), (Nat.le_trans (m := 162) (Nat.le_of_ble_eq_true rfl) hR.2.1)⟩ ⟨hR.2.2.1, hR.2.2.2⟩ rfl rfl (Nat.le_of_ble_eq_true rfl) gd_Law_tooth_5 (w := xw_e (0, 10, 17, 25)) (pre := [(xw_e (0, 10, 13, 19), xt_nm 2)]) (more := []) htb (xw_c ⟨by decide, by decide, gk_875, hN 3 (by decide) 2 (by decide) (by decide)⟩ xw_n) (by decide) (by decide) gk_880 (fun x H locs hW => ?_)
      refine W.widen (k := 1) (n := 6) (by decide) (by decide) ?_
      refine lv_astore (lv' := [(4, .ref x)]) hx hb gd_Law_tooth_17 (lv_sub hl [] rfl) (by decide) rfl (fun ls hl => ?_)
      refine lv_iconst (v := 2) hx hb gd_Law_tooth_19 (by decide) ?_
      exact gw_iretW C hW hr hk gd_Law_tooth_20
    have h := gf_f c6 h
    cases h
  refine gw_callVi (K := R_Desk) (As := [.int x1, .int x2]) (rest := [.int (0 : Int32), .ref (hs t3)]) C hW (fun _ h => Or.inr h) hl.1 gm_Desk_tooth (gc_Desk_tooth l hfl F o_t0 d2 _) gk_877 gk_878 gk_879 o_t0 (by decide) rfl rfl rfl ⟨(Nat.le_trans (m := 8) (Nat.le_of_ble_eq_true rfl) hR.1), (Nat.le_trans (m := 162) (Nat.le_of_ble_eq_true rfl) hR.2.1)⟩ ⟨Nat.zero_le _, Nat.zero_le _⟩ rfl rfl (Nat.le_of_ble_eq_true rfl) gd_Law_tooth_5 (fun H locs hW => ?_)
  refine lv_i2l hx hb gd_Law_tooth_8 rfl ?_
  obtain ⟨g7, h⟩ := gf_if_ok h
  refine gw_last C hW o_t3 g7 gd_Law_tooth_9 (fun u8 H locs e9 hW => ?_)
  have h := gf_nm_ok e9 h
  refine lv_goto (tgt := 21) hx hb gd_Law_tooth_10 (by decide) ?_
  refine lv_iconst (v := 0) hx hb gd_Law_tooth_21 (by decide) ?_
  obtain rfl := Option.some.inj h
  refine W.widen (k := 1) (n := 6) (by decide) (by decide) ?_
  exact gw_iretW C hW hr hk gd_Law_tooth_22

set_option maxRecDepth 20000 in
theorem gc_Law_tooth (l : Launch) (hfl : l.flags = pinnedFlags ++ [noTraceFlag]) {D : va_G} {cA : Nat → ClassId} {hs : Nat → Nat} {z : gw_Sh} (F : Nat) {u : gw_St} {r0 : Int32 × gw_St} {t0 : Nat} {x1 : Int32} {x2 : Int32} {t3 : Nat} (o_t0 : gw_ok z t0 0) (o_t3 : gw_ok z t3 11) (h : gf_Law_tooth F z u t0 x1 x2 t3 = some r0) (sz : Nat) : gw_Mw l gy_Law_tooth gb_Law_tooth 5 (some .int) [(0, 10, 13, 19), (0, 10, 17, 25)] (xt_rm 8 162) [.ref (hs t0), .int x1, .int x2, .ref (hs t3)] D cA hs z u sz r0 := by
  refine gw_enterW (by decide) (Nat.le_of_ble_eq_true rfl) ?_
  intro p e s m below meth c ls hsz C hW hr hk htb hZ hN hl
  subst hsz
  exact gx_Law_tooth_b0 F C hr hk (xt_rm_ok 8 162) hfl htb hZ hN u t0 x1 x2 t3 o_t0 o_t3 hW (lv_sub hl [0, 1, 2, 3] rfl) h
-- GearDeskLaw.error(LGearDesk;I[J)I
theorem gk_882 : Cond.methodLink R_Law 27 gy_Desk_error ∈ gt_T := gt_m4 (List.mem_of_getElem? (i := 163) rfl) rfl
theorem gk_883 : Cond.instanceMethod gy_Desk_error ∈ gt_T := gt_m4 (List.mem_of_getElem? (i := 164) rfl) rfl
theorem gk_884 : Cond.selects R_Desk gy_Desk_error gy_Desk_error ∈ gt_T := gt_m4 (List.mem_of_getElem? (i := 165) rfl) rfl
def gy_Law_error : MethodName := ⟨R_Law, "error", "(LGearDesk;I[J)I"⟩
abbrev gb_Law_error : ByteArray := method_6_code
theorem gk_885 : Cond.codeWith gy_Law_error gb_Law_error 4 (some .int) [(0, 8, 11, 19), (0, 8, 14, 25)] ∈ gt_T := gt_m4 (List.mem_of_getElem? (i := 162) rfl) rfl
theorem gm_Law_error : gw_MthW gy_Law_error gb_Law_error 4 (some .int) [(0, 8, 11, 19), (0, 8, 14, 25)] 3 := ⟨gk_885, gk_870, ⟨by decide +kernel, by decide +kernel⟩, by decide +kernel⟩
theorem gd_Law_error_0 : decode gb_Law_error 0 = .ok (.aload_n 2, 1) := by decide +kernel
theorem gd_Law_error_1 : decode gb_Law_error 1 = .ok (.iconst 0, 1) := by decide +kernel
theorem gd_Law_error_2 : decode gb_Law_error 2 = .ok (.aload_n 0, 1) := by decide +kernel
theorem gd_Law_error_3 : decode gb_Law_error 3 = .ok (.iload_n 1, 1) := by decide +kernel
theorem gd_Law_error_4 : decode gb_Law_error 4 = .ok (.invokevirtual 27, 3) := by decide +kernel
theorem gd_Law_error_7 : decode gb_Law_error 7 = .ok (.lastore, 1) := by decide +kernel
theorem gd_Law_error_8 : decode gb_Law_error 8 = .ok (.goto 9, 3) := by decide +kernel
theorem gd_Law_error_11 : decode gb_Law_error 11 = .ok (.astore_n 3, 1) := by decide +kernel
theorem gd_Law_error_12 : decode gb_Law_error 12 = .ok (.iconst 1, 1) := by decide +kernel
theorem gd_Law_error_13 : decode gb_Law_error 13 = .ok (.ireturn, 1) := by decide +kernel
theorem gd_Law_error_14 : decode gb_Law_error 14 = .ok (.astore_n 3, 1) := by decide +kernel
theorem gd_Law_error_15 : decode gb_Law_error 15 = .ok (.iconst 2, 1) := by decide +kernel
theorem gd_Law_error_16 : decode gb_Law_error 16 = .ok (.ireturn, 1) := by decide +kernel
theorem gd_Law_error_17 : decode gb_Law_error 17 = .ok (.iconst 0, 1) := by decide +kernel
theorem gd_Law_error_18 : decode gb_Law_error 18 = .ok (.ireturn, 1) := by decide +kernel
def gf_Law_error_b0 (F : Nat) (z : gw_Sh)  (u : gw_St) (t0 : Nat) (x1 : Int32) (t2 : Nat) : Option (Int32 × gw_St) :=
  gf_ch (gf_Desk_error F z u t0 x1) (fun k w => if k = 2 then some (1, w) else if k = 3 then some (2, w) else none) fun a3 u1 => if ((0 : Int32) < 0 ∨ z.2.2 t2 ≤ ((0 : Int32)).toNatClampNeg) then none else gf_nm (gw_wl u1 t2 ((0 : Int32)).toNatClampNeg a3) fun u8 => some ((0 : Int32), u8)
def gf_Law_error (F : Nat) (z : gw_Sh) (u : gw_St) (t0 : Nat) (x1 : Int32) (t2 : Nat) : Option (Int32 × gw_St) := gf_Law_error_b0 F z  u t0 x1 t2
set_option maxHeartbeats 4000000 in
set_option maxRecDepth 20000 in
theorem gx_Law_error_b0 {p : Program} {l : Launch} {e : Env} {s : State} {m : MethodId} {args : Array Value} {below : List Frame} {meth : Method} {c : Code} {D : va_G} {cA : Nat → ClassId} {hs : Nat → Nat} {z : gw_Sh} (F : Nat) {r0 : (Int32 × gw_St)} (C : gw_Cx p s m args c gb_Law_error 4 R_Law D cA) (hr : meth.sig.returnType = (some .int)) (hk : meth.locks = false) {R : Room} (hR : 8 ≤ R.frames ∧ 161 ≤ R.locals ∧ 1 ≤ R.cells ∧ 6 ≤ R.slots) (hfl : l.flags = pinnedFlags ++ [noTraceFlag]) (htb : c.exceptionTable.toList = List.map xw_e [(0, 8, 11, 19), (0, 8, 14, 25)]) (hZ : xt_Zs (gw_A hs z s.heap.size) s s.heap) (hN : xt_Nn s) (u : gw_St) (t0 : Nat) (x1 : Int32) (t2 : Nat) (o_t0 : gw_ok z t0 0) (o_t2 : gw_ok z t2 11) {H : Heap} {locs : List Loc} {ls : Array Slot} (hW : gw_Wx D cA hs z s u H locs) (hl : lv_has ls 4 [(0, .ref (hs t0)), (1, .int x1), (2, .ref (hs t2))]) (h : gf_Law_error_b0 F z   u t0 x1 t2 = some r0) : gw_Gw p l e R s m args below meth c D cA hs z r0 H locs ls 0 [] := by
  obtain ⟨hx, hb, hml, hown, hts, hK⟩ := id C
  unfold gf_Law_error_b0 at h
  refine lv_aload_n hx hb gd_Law_error_0 rfl (lv_at hl 2 rfl) ?_
  refine lv_iconst (v := 0) hx hb gd_Law_error_1 (by decide) ?_
  refine lv_aload_n hx hb gd_Law_error_2 rfl (lv_at hl 0 rfl) ?_
  refine lv_iload_n hx hb gd_Law_error_3 rfl (lv_at hl 1 rfl) ?_
  rcases gf_ch_ok h with ⟨k4, u1, d2, h⟩ | ⟨a3, u1, d2, h⟩
  · by_cases c5 : k4 = 2
    · subst c5
      have h := gf_t rfl h
      obtain rfl := Option.some.inj h
      refine xt_catch (K := R_Desk) (As := [.int x1]) (rest := [.int (0 : Int32), .ref (hs t2)]) C hW (fun _ h => Or.inr h) hZ hl.1 gm_Desk_error (gt_Desk_error l hfl F o_t0 d2 _) gk_882 gk_883 gk_884 o_t0 (by decide) rfl rfl rfl ⟨(Nat.le_trans (m := 8) (Nat.le_of_ble_eq_true rfl) hR.1), (Nat.le_trans (m := 161) (Nat.le_of_ble_eq_true rfl) hR.2.1)⟩ ⟨hR.2.2.1, hR.2.2.2⟩ rfl rfl (Nat.le_of_ble_eq_true rfl) gd_Law_error_4 (w := xw_e (0, 8, 11, 19)) (pre := []) (more := [xw_e (0, 8, 14, 25)]) htb xw_n (by decide) (by decide) gk_875 (fun x H locs hW => ?_)
      refine W.widen (k := 1) (n := 6) (by decide) (by decide) ?_
      refine lv_astore_n (lv' := [(3, .ref x)]) hx hb gd_Law_error_11 rfl (lv_sub hl [] rfl) (by decide) rfl (fun ls hl => ?_)
      refine lv_iconst (v := 1) hx hb gd_Law_error_12 (by decide) ?_
      exact gw_iretW C hW hr hk gd_Law_error_13
    have h := gf_f c5 h
    by_cases c6 : k4 = 3
    · subst c6
      have h := gf_t rfl h
      obtain rfl := Option.some.inj h
      refine xt_catch (K := R_Desk) (As := [.int x1]) (rest := [.int (0 : Int32), .ref (hs t2)]) C hW (fun _ h => Or.inr h) hZ hl.1 gm_Desk_error (gt_Desk_error l hfl F o_t0 d2 _) gk_882 gk_883 gk_884 o_t0 (by decide) rfl rfl rfl ⟨(Nat.le_trans (m := 8) (Nat.le_of_ble_eq_true rfl) hR.1), (Nat.le_trans (m := 161) (Nat.le_of_ble_eq_true rfl) hR.2.1)⟩ ⟨hR.2.2.1, hR.2.2.2⟩ rfl rfl (Nat.le_of_ble_eq_true rfl) gd_Law_error_4 (w := xw_e (0, 8, 14, 25)) (pre := [(xw_e (0, 8, 11, 19), xt_nm 2)]) (more := []) htb (xw_c ⟨by decide, by decide, gk_875, hN 3 (by decide) 2 (by decide) (by decide)⟩ xw_n) (by decide) (by decide) gk_880 (fun x H locs hW => ?_)
      refine W.widen (k := 1) (n := 6) (by decide) (by decide) ?_
      refine lv_astore_n (lv' := [(3, .ref x)]) hx hb gd_Law_error_14 rfl (lv_sub hl [] rfl) (by decide) rfl (fun ls hl => ?_)
      refine lv_iconst (v := 2) hx hb gd_Law_error_15 (by decide) ?_
      exact gw_iretW C hW hr hk gd_Law_error_16
    have h := gf_f c6 h
    cases h
  refine gw_callVl (K := R_Desk) (As := [.int x1]) (rest := [.int (0 : Int32), .ref (hs t2)]) C hW (fun _ h => Or.inr h) hl.1 gm_Desk_error (gc_Desk_error l hfl F o_t0 d2 _) gk_882 gk_883 gk_884 o_t0 (by decide) rfl rfl rfl ⟨(Nat.le_trans (m := 8) (Nat.le_of_ble_eq_true rfl) hR.1), (Nat.le_trans (m := 161) (Nat.le_of_ble_eq_true rfl) hR.2.1)⟩ ⟨Nat.zero_le _, Nat.zero_le _⟩ rfl rfl (Nat.le_of_ble_eq_true rfl) gd_Law_error_4 (fun H locs hW => ?_)
  obtain ⟨g7, h⟩ := gf_if_ok h
  refine gw_last C hW o_t2 g7 gd_Law_error_7 (fun u8 H locs e9 hW => ?_)
  have h := gf_nm_ok e9 h
  refine lv_goto (tgt := 17) hx hb gd_Law_error_8 (by decide) ?_
  refine lv_iconst (v := 0) hx hb gd_Law_error_17 (by decide) ?_
  obtain rfl := Option.some.inj h
  refine W.widen (k := 1) (n := 6) (by decide) (by decide) ?_
  exact gw_iretW C hW hr hk gd_Law_error_18

set_option maxRecDepth 20000 in
theorem gc_Law_error (l : Launch) (hfl : l.flags = pinnedFlags ++ [noTraceFlag]) {D : va_G} {cA : Nat → ClassId} {hs : Nat → Nat} {z : gw_Sh} (F : Nat) {u : gw_St} {r0 : Int32 × gw_St} {t0 : Nat} {x1 : Int32} {t2 : Nat} (o_t0 : gw_ok z t0 0) (o_t2 : gw_ok z t2 11) (h : gf_Law_error F z u t0 x1 t2 = some r0) (sz : Nat) : gw_Mw l gy_Law_error gb_Law_error 4 (some .int) [(0, 8, 11, 19), (0, 8, 14, 25)] (xt_rm 8 161) [.ref (hs t0), .int x1, .ref (hs t2)] D cA hs z u sz r0 := by
  refine gw_enterW (by decide) (Nat.le_of_ble_eq_true rfl) ?_
  intro p e s m below meth c ls hsz C hW hr hk htb hZ hN hl
  subst hsz
  exact gx_Law_error_b0 F C hr hk (xt_rm_ok 8 161) hfl htb hZ hN u t0 x1 t2 o_t0 o_t2 hW (lv_sub hl [0, 1, 2] rfl) h
-- GearDeskLaw.quotient(LGearDesk;III[J)I
theorem gk_886 : Cond.methodLink R_Law 31 gy_Desk_quotient ∈ gt_T := gt_m4 (List.mem_of_getElem? (i := 177) rfl) rfl
theorem gk_887 : Cond.instanceMethod gy_Desk_quotient ∈ gt_T := gt_m4 (List.mem_of_getElem? (i := 178) rfl) rfl
theorem gk_888 : Cond.selects R_Desk gy_Desk_quotient gy_Desk_quotient ∈ gt_T := gt_m4 (List.mem_of_getElem? (i := 179) rfl) rfl
def gy_Law_quotient : MethodName := ⟨R_Law, "quotient", "(LGearDesk;III[J)I"⟩
abbrev gb_Law_quotient : ByteArray := method_7_code
theorem gk_889 : Cond.codeWith gy_Law_quotient gb_Law_quotient 6 (some .int) [(0, 12, 15, 13), (0, 12, 19, 25)] ∈ gt_T := gt_m4 (List.mem_of_getElem? (i := 176) rfl) rfl
theorem gm_Law_quotient : gw_MthW gy_Law_quotient gb_Law_quotient 6 (some .int) [(0, 12, 15, 13), (0, 12, 19, 25)] 5 := ⟨gk_889, gk_870, ⟨by decide +kernel, by decide +kernel⟩, by decide +kernel⟩
theorem gd_Law_quotient_0 : decode gb_Law_quotient 0 = .ok (.aload 4, 2) := by decide +kernel
theorem gd_Law_quotient_2 : decode gb_Law_quotient 2 = .ok (.iconst 0, 1) := by decide +kernel
theorem gd_Law_quotient_3 : decode gb_Law_quotient 3 = .ok (.aload_n 0, 1) := by decide +kernel
theorem gd_Law_quotient_4 : decode gb_Law_quotient 4 = .ok (.iload_n 1, 1) := by decide +kernel
theorem gd_Law_quotient_5 : decode gb_Law_quotient 5 = .ok (.iload_n 2, 1) := by decide +kernel
theorem gd_Law_quotient_6 : decode gb_Law_quotient 6 = .ok (.iload_n 3, 1) := by decide +kernel
theorem gd_Law_quotient_7 : decode gb_Law_quotient 7 = .ok (.invokevirtual 31, 3) := by decide +kernel
theorem gd_Law_quotient_10 : decode gb_Law_quotient 10 = .ok (.i2l, 1) := by decide +kernel
theorem gd_Law_quotient_11 : decode gb_Law_quotient 11 = .ok (.lastore, 1) := by decide +kernel
theorem gd_Law_quotient_12 : decode gb_Law_quotient 12 = .ok (.goto 11, 3) := by decide +kernel
theorem gd_Law_quotient_15 : decode gb_Law_quotient 15 = .ok (.astore 5, 2) := by decide +kernel
theorem gd_Law_quotient_17 : decode gb_Law_quotient 17 = .ok (.iconst 1, 1) := by decide +kernel
theorem gd_Law_quotient_18 : decode gb_Law_quotient 18 = .ok (.ireturn, 1) := by decide +kernel
theorem gd_Law_quotient_19 : decode gb_Law_quotient 19 = .ok (.astore 5, 2) := by decide +kernel
theorem gd_Law_quotient_21 : decode gb_Law_quotient 21 = .ok (.iconst 2, 1) := by decide +kernel
theorem gd_Law_quotient_22 : decode gb_Law_quotient 22 = .ok (.ireturn, 1) := by decide +kernel
theorem gd_Law_quotient_23 : decode gb_Law_quotient 23 = .ok (.iconst 0, 1) := by decide +kernel
theorem gd_Law_quotient_24 : decode gb_Law_quotient 24 = .ok (.ireturn, 1) := by decide +kernel
def gf_Law_quotient_b0 (F : Nat) (z : gw_Sh)  (u : gw_St) (t0 : Nat) (x1 : Int32) (x2 : Int32) (x3 : Int32) (t4 : Nat) : Option (Int32 × gw_St) :=
  gf_ch (gf_Desk_quotient F z u t0 x1 x2 x3) (fun k w => if k = 1 then some (1, w) else if k = 3 then some (2, w) else none) fun a3 u1 => if ((0 : Int32) < 0 ∨ z.2.2 t4 ≤ ((0 : Int32)).toNatClampNeg) then none else gf_nm (gw_wl u1 t4 ((0 : Int32)).toNatClampNeg ((a3).toInt64)) fun u8 => some ((0 : Int32), u8)
def gf_Law_quotient (F : Nat) (z : gw_Sh) (u : gw_St) (t0 : Nat) (x1 : Int32) (x2 : Int32) (x3 : Int32) (t4 : Nat) : Option (Int32 × gw_St) := gf_Law_quotient_b0 F z  u t0 x1 x2 x3 t4
set_option maxHeartbeats 4000000 in
set_option maxRecDepth 20000 in
theorem gx_Law_quotient_b0 {p : Program} {l : Launch} {e : Env} {s : State} {m : MethodId} {args : Array Value} {below : List Frame} {meth : Method} {c : Code} {D : va_G} {cA : Nat → ClassId} {hs : Nat → Nat} {z : gw_Sh} (F : Nat) {r0 : (Int32 × gw_St)} (C : gw_Cx p s m args c gb_Law_quotient 6 R_Law D cA) (hr : meth.sig.returnType = (some .int)) (hk : meth.locks = false) {R : Room} (hR : 7 ≤ R.frames ∧ 147 ≤ R.locals ∧ 1 ≤ R.cells ∧ 6 ≤ R.slots) (hfl : l.flags = pinnedFlags ++ [noTraceFlag]) (htb : c.exceptionTable.toList = List.map xw_e [(0, 12, 15, 13), (0, 12, 19, 25)]) (hZ : xt_Zs (gw_A hs z s.heap.size) s s.heap) (hN : xt_Nn s) (u : gw_St) (t0 : Nat) (x1 : Int32) (x2 : Int32) (x3 : Int32) (t4 : Nat) (o_t0 : gw_ok z t0 0) (o_t4 : gw_ok z t4 11) {H : Heap} {locs : List Loc} {ls : Array Slot} (hW : gw_Wx D cA hs z s u H locs) (hl : lv_has ls 6 [(0, .ref (hs t0)), (1, .int x1), (2, .int x2), (3, .int x3), (4, .ref (hs t4))]) (h : gf_Law_quotient_b0 F z   u t0 x1 x2 x3 t4 = some r0) : gw_Gw p l e R s m args below meth c D cA hs z r0 H locs ls 0 [] := by
  obtain ⟨hx, hb, hml, hown, hts, hK⟩ := id C
  unfold gf_Law_quotient_b0 at h
  refine lv_aload hx hb gd_Law_quotient_0 (lv_at hl 4 rfl) ?_
  refine lv_iconst (v := 0) hx hb gd_Law_quotient_2 (by decide) ?_
  refine lv_aload_n hx hb gd_Law_quotient_3 rfl (lv_at hl 0 rfl) ?_
  refine lv_iload_n hx hb gd_Law_quotient_4 rfl (lv_at hl 1 rfl) ?_
  refine lv_iload_n hx hb gd_Law_quotient_5 rfl (lv_at hl 2 rfl) ?_
  refine lv_iload_n hx hb gd_Law_quotient_6 rfl (lv_at hl 3 rfl) ?_
  rcases gf_ch_ok h with ⟨k4, u1, d2, h⟩ | ⟨a3, u1, d2, h⟩
  · by_cases c5 : k4 = 1
    · subst c5
      have h := gf_t rfl h
      obtain rfl := Option.some.inj h
      refine xt_catch (K := R_Desk) (As := [.int x1, .int x2, .int x3]) (rest := [.int (0 : Int32), .ref (hs t4)]) C hW (fun _ h => Or.inr h) hZ hl.1 gm_Desk_quotient (gt_Desk_quotient l hfl F o_t0 d2 _) gk_886 gk_887 gk_888 o_t0 (by decide) rfl rfl rfl ⟨(Nat.le_trans (m := 7) (Nat.le_of_ble_eq_true rfl) hR.1), (Nat.le_trans (m := 147) (Nat.le_of_ble_eq_true rfl) hR.2.1)⟩ ⟨hR.2.2.1, hR.2.2.2⟩ rfl rfl (Nat.le_of_ble_eq_true rfl) gd_Law_quotient_7 (w := xw_e (0, 12, 15, 13)) (pre := []) (more := [xw_e (0, 12, 19, 25)]) htb xw_n (by decide) (by decide) gk_869 (fun x H locs hW => ?_)
      refine W.widen (k := 1) (n := 6) (by decide) (by decide) ?_
      refine lv_astore (lv' := [(5, .ref x)]) hx hb gd_Law_quotient_15 (lv_sub hl [] rfl) (by decide) rfl (fun ls hl => ?_)
      refine lv_iconst (v := 1) hx hb gd_Law_quotient_17 (by decide) ?_
      exact gw_iretW C hW hr hk gd_Law_quotient_18
    have h := gf_f c5 h
    by_cases c6 : k4 = 3
    · subst c6
      have h := gf_t rfl h
      obtain rfl := Option.some.inj h
      refine xt_catch (K := R_Desk) (As := [.int x1, .int x2, .int x3]) (rest := [.int (0 : Int32), .ref (hs t4)]) C hW (fun _ h => Or.inr h) hZ hl.1 gm_Desk_quotient (gt_Desk_quotient l hfl F o_t0 d2 _) gk_886 gk_887 gk_888 o_t0 (by decide) rfl rfl rfl ⟨(Nat.le_trans (m := 7) (Nat.le_of_ble_eq_true rfl) hR.1), (Nat.le_trans (m := 147) (Nat.le_of_ble_eq_true rfl) hR.2.1)⟩ ⟨hR.2.2.1, hR.2.2.2⟩ rfl rfl (Nat.le_of_ble_eq_true rfl) gd_Law_quotient_7 (w := xw_e (0, 12, 19, 25)) (pre := [(xw_e (0, 12, 15, 13), xt_nm 1)]) (more := []) htb (xw_c ⟨by decide, by decide, gk_869, hN 3 (by decide) 1 (by decide) (by decide)⟩ xw_n) (by decide) (by decide) gk_880 (fun x H locs hW => ?_)
      refine W.widen (k := 1) (n := 6) (by decide) (by decide) ?_
      refine lv_astore (lv' := [(5, .ref x)]) hx hb gd_Law_quotient_19 (lv_sub hl [] rfl) (by decide) rfl (fun ls hl => ?_)
      refine lv_iconst (v := 2) hx hb gd_Law_quotient_21 (by decide) ?_
      exact gw_iretW C hW hr hk gd_Law_quotient_22
    have h := gf_f c6 h
    cases h
  refine gw_callVi (K := R_Desk) (As := [.int x1, .int x2, .int x3]) (rest := [.int (0 : Int32), .ref (hs t4)]) C hW (fun _ h => Or.inr h) hl.1 gm_Desk_quotient (gc_Desk_quotient l hfl F o_t0 d2 _) gk_886 gk_887 gk_888 o_t0 (by decide) rfl rfl rfl ⟨(Nat.le_trans (m := 7) (Nat.le_of_ble_eq_true rfl) hR.1), (Nat.le_trans (m := 147) (Nat.le_of_ble_eq_true rfl) hR.2.1)⟩ ⟨Nat.zero_le _, Nat.zero_le _⟩ rfl rfl (Nat.le_of_ble_eq_true rfl) gd_Law_quotient_7 (fun H locs hW => ?_)
  refine lv_i2l hx hb gd_Law_quotient_10 rfl ?_
  obtain ⟨g7, h⟩ := gf_if_ok h
  refine gw_last C hW o_t4 g7 gd_Law_quotient_11 (fun u8 H locs e9 hW => ?_)
  have h := gf_nm_ok e9 h
  refine lv_goto (tgt := 23) hx hb gd_Law_quotient_12 (by decide) ?_
  refine lv_iconst (v := 0) hx hb gd_Law_quotient_23 (by decide) ?_
  obtain rfl := Option.some.inj h
  refine W.widen (k := 1) (n := 6) (by decide) (by decide) ?_
  exact gw_iretW C hW hr hk gd_Law_quotient_24

set_option maxRecDepth 20000 in
theorem gc_Law_quotient (l : Launch) (hfl : l.flags = pinnedFlags ++ [noTraceFlag]) {D : va_G} {cA : Nat → ClassId} {hs : Nat → Nat} {z : gw_Sh} (F : Nat) {u : gw_St} {r0 : Int32 × gw_St} {t0 : Nat} {x1 : Int32} {x2 : Int32} {x3 : Int32} {t4 : Nat} (o_t0 : gw_ok z t0 0) (o_t4 : gw_ok z t4 11) (h : gf_Law_quotient F z u t0 x1 x2 x3 t4 = some r0) (sz : Nat) : gw_Mw l gy_Law_quotient gb_Law_quotient 6 (some .int) [(0, 12, 15, 13), (0, 12, 19, 25)] (xt_rm 7 147) [.ref (hs t0), .int x1, .int x2, .int x3, .ref (hs t4)] D cA hs z u sz r0 := by
  refine gw_enterW (by decide) (Nat.le_of_ble_eq_true rfl) ?_
  intro p e s m below meth c ls hsz C hW hr hk htb hZ hN hl
  subst hsz
  exact gx_Law_quotient_b0 F C hr hk (xt_rm_ok 7 147) hfl htb hZ hN u t0 x1 x2 x3 t4 o_t0 o_t4 hW (lv_sub hl [0, 1, 2, 3, 4] rfl) h
-- GearDeskLaw.gear(LGearDesk;I[J)I
theorem gk_890 : Cond.methodLink R_Law 35 gy_Desk_gear ∈ gt_T := gt_m4 (List.mem_of_getElem? (i := 184) rfl) rfl
theorem gk_891 : Cond.instanceMethod gy_Desk_gear ∈ gt_T := gt_m4 (List.mem_of_getElem? (i := 185) rfl) rfl
theorem gk_892 : Cond.selects R_Desk gy_Desk_gear gy_Desk_gear ∈ gt_T := gt_m4 (List.mem_of_getElem? (i := 186) rfl) rfl
def gy_Law_gear : MethodName := ⟨R_Law, "gear", "(LGearDesk;I[J)I"⟩
abbrev gb_Law_gear : ByteArray := method_8_code
theorem gk_893 : Cond.codeWith gy_Law_gear gb_Law_gear 4 (some .int) [(0, 9, 12, 13), (0, 9, 15, 19)] ∈ gt_T := gt_m4 (List.mem_of_getElem? (i := 183) rfl) rfl
theorem gm_Law_gear : gw_MthW gy_Law_gear gb_Law_gear 4 (some .int) [(0, 9, 12, 13), (0, 9, 15, 19)] 3 := ⟨gk_893, gk_870, ⟨by decide +kernel, by decide +kernel⟩, by decide +kernel⟩
theorem gd_Law_gear_0 : decode gb_Law_gear 0 = .ok (.aload_n 2, 1) := by decide +kernel
theorem gd_Law_gear_1 : decode gb_Law_gear 1 = .ok (.iconst 0, 1) := by decide +kernel
theorem gd_Law_gear_2 : decode gb_Law_gear 2 = .ok (.aload_n 0, 1) := by decide +kernel
theorem gd_Law_gear_3 : decode gb_Law_gear 3 = .ok (.iload_n 1, 1) := by decide +kernel
theorem gd_Law_gear_4 : decode gb_Law_gear 4 = .ok (.invokevirtual 35, 3) := by decide +kernel
theorem gd_Law_gear_7 : decode gb_Law_gear 7 = .ok (.i2l, 1) := by decide +kernel
theorem gd_Law_gear_8 : decode gb_Law_gear 8 = .ok (.lastore, 1) := by decide +kernel
theorem gd_Law_gear_9 : decode gb_Law_gear 9 = .ok (.goto 9, 3) := by decide +kernel
theorem gd_Law_gear_12 : decode gb_Law_gear 12 = .ok (.astore_n 3, 1) := by decide +kernel
theorem gd_Law_gear_13 : decode gb_Law_gear 13 = .ok (.iconst 1, 1) := by decide +kernel
theorem gd_Law_gear_14 : decode gb_Law_gear 14 = .ok (.ireturn, 1) := by decide +kernel
theorem gd_Law_gear_15 : decode gb_Law_gear 15 = .ok (.astore_n 3, 1) := by decide +kernel
theorem gd_Law_gear_16 : decode gb_Law_gear 16 = .ok (.iconst 2, 1) := by decide +kernel
theorem gd_Law_gear_17 : decode gb_Law_gear 17 = .ok (.ireturn, 1) := by decide +kernel
theorem gd_Law_gear_18 : decode gb_Law_gear 18 = .ok (.iconst 0, 1) := by decide +kernel
theorem gd_Law_gear_19 : decode gb_Law_gear 19 = .ok (.ireturn, 1) := by decide +kernel
def gf_Law_gear_b0 (F : Nat) (z : gw_Sh)  (u : gw_St) (t0 : Nat) (x1 : Int32) (t2 : Nat) : Option (Int32 × gw_St) :=
  gf_ch (gf_Desk_gear F z u t0 x1) (fun k w => if k = 1 then some (1, w) else if k = 2 then some (2, w) else none) fun a3 u1 => if ((0 : Int32) < 0 ∨ z.2.2 t2 ≤ ((0 : Int32)).toNatClampNeg) then none else gf_nm (gw_wl u1 t2 ((0 : Int32)).toNatClampNeg ((a3).toInt64)) fun u8 => some ((0 : Int32), u8)
def gf_Law_gear (F : Nat) (z : gw_Sh) (u : gw_St) (t0 : Nat) (x1 : Int32) (t2 : Nat) : Option (Int32 × gw_St) := gf_Law_gear_b0 F z  u t0 x1 t2
set_option maxHeartbeats 4000000 in
set_option maxRecDepth 20000 in
theorem gx_Law_gear_b0 {p : Program} {l : Launch} {e : Env} {s : State} {m : MethodId} {args : Array Value} {below : List Frame} {meth : Method} {c : Code} {D : va_G} {cA : Nat → ClassId} {hs : Nat → Nat} {z : gw_Sh} (F : Nat) {r0 : (Int32 × gw_St)} (C : gw_Cx p s m args c gb_Law_gear 4 R_Law D cA) (hr : meth.sig.returnType = (some .int)) (hk : meth.locks = false) {R : Room} (hR : 7 ≤ R.frames ∧ 141 ≤ R.locals ∧ 1 ≤ R.cells ∧ 6 ≤ R.slots) (hfl : l.flags = pinnedFlags ++ [noTraceFlag]) (htb : c.exceptionTable.toList = List.map xw_e [(0, 9, 12, 13), (0, 9, 15, 19)]) (hZ : xt_Zs (gw_A hs z s.heap.size) s s.heap) (hN : xt_Nn s) (u : gw_St) (t0 : Nat) (x1 : Int32) (t2 : Nat) (o_t0 : gw_ok z t0 0) (o_t2 : gw_ok z t2 11) {H : Heap} {locs : List Loc} {ls : Array Slot} (hW : gw_Wx D cA hs z s u H locs) (hl : lv_has ls 4 [(0, .ref (hs t0)), (1, .int x1), (2, .ref (hs t2))]) (h : gf_Law_gear_b0 F z   u t0 x1 t2 = some r0) : gw_Gw p l e R s m args below meth c D cA hs z r0 H locs ls 0 [] := by
  obtain ⟨hx, hb, hml, hown, hts, hK⟩ := id C
  unfold gf_Law_gear_b0 at h
  refine lv_aload_n hx hb gd_Law_gear_0 rfl (lv_at hl 2 rfl) ?_
  refine lv_iconst (v := 0) hx hb gd_Law_gear_1 (by decide) ?_
  refine lv_aload_n hx hb gd_Law_gear_2 rfl (lv_at hl 0 rfl) ?_
  refine lv_iload_n hx hb gd_Law_gear_3 rfl (lv_at hl 1 rfl) ?_
  rcases gf_ch_ok h with ⟨k4, u1, d2, h⟩ | ⟨a3, u1, d2, h⟩
  · by_cases c5 : k4 = 1
    · subst c5
      have h := gf_t rfl h
      obtain rfl := Option.some.inj h
      refine xt_catch (K := R_Desk) (As := [.int x1]) (rest := [.int (0 : Int32), .ref (hs t2)]) C hW (fun _ h => Or.inr h) hZ hl.1 gm_Desk_gear (gt_Desk_gear l hfl F o_t0 d2 _) gk_890 gk_891 gk_892 o_t0 (by decide) rfl rfl rfl ⟨(Nat.le_trans (m := 7) (Nat.le_of_ble_eq_true rfl) hR.1), (Nat.le_trans (m := 141) (Nat.le_of_ble_eq_true rfl) hR.2.1)⟩ ⟨hR.2.2.1, hR.2.2.2⟩ rfl rfl (Nat.le_of_ble_eq_true rfl) gd_Law_gear_4 (w := xw_e (0, 9, 12, 13)) (pre := []) (more := [xw_e (0, 9, 15, 19)]) htb xw_n (by decide) (by decide) gk_869 (fun x H locs hW => ?_)
      refine W.widen (k := 1) (n := 6) (by decide) (by decide) ?_
      refine lv_astore_n (lv' := [(3, .ref x)]) hx hb gd_Law_gear_12 rfl (lv_sub hl [] rfl) (by decide) rfl (fun ls hl => ?_)
      refine lv_iconst (v := 1) hx hb gd_Law_gear_13 (by decide) ?_
      exact gw_iretW C hW hr hk gd_Law_gear_14
    have h := gf_f c5 h
    by_cases c6 : k4 = 2
    · subst c6
      have h := gf_t rfl h
      obtain rfl := Option.some.inj h
      refine xt_catch (K := R_Desk) (As := [.int x1]) (rest := [.int (0 : Int32), .ref (hs t2)]) C hW (fun _ h => Or.inr h) hZ hl.1 gm_Desk_gear (gt_Desk_gear l hfl F o_t0 d2 _) gk_890 gk_891 gk_892 o_t0 (by decide) rfl rfl rfl ⟨(Nat.le_trans (m := 7) (Nat.le_of_ble_eq_true rfl) hR.1), (Nat.le_trans (m := 141) (Nat.le_of_ble_eq_true rfl) hR.2.1)⟩ ⟨hR.2.2.1, hR.2.2.2⟩ rfl rfl (Nat.le_of_ble_eq_true rfl) gd_Law_gear_4 (w := xw_e (0, 9, 15, 19)) (pre := [(xw_e (0, 9, 12, 13), xt_nm 1)]) (more := []) htb (xw_c ⟨by decide, by decide, gk_869, hN 2 (by decide) 1 (by decide) (by decide)⟩ xw_n) (by decide) (by decide) gk_875 (fun x H locs hW => ?_)
      refine W.widen (k := 1) (n := 6) (by decide) (by decide) ?_
      refine lv_astore_n (lv' := [(3, .ref x)]) hx hb gd_Law_gear_15 rfl (lv_sub hl [] rfl) (by decide) rfl (fun ls hl => ?_)
      refine lv_iconst (v := 2) hx hb gd_Law_gear_16 (by decide) ?_
      exact gw_iretW C hW hr hk gd_Law_gear_17
    have h := gf_f c6 h
    cases h
  refine gw_callVi (K := R_Desk) (As := [.int x1]) (rest := [.int (0 : Int32), .ref (hs t2)]) C hW (fun _ h => Or.inr h) hl.1 gm_Desk_gear (gc_Desk_gear l hfl F o_t0 d2 _) gk_890 gk_891 gk_892 o_t0 (by decide) rfl rfl rfl ⟨(Nat.le_trans (m := 7) (Nat.le_of_ble_eq_true rfl) hR.1), (Nat.le_trans (m := 141) (Nat.le_of_ble_eq_true rfl) hR.2.1)⟩ ⟨Nat.zero_le _, Nat.zero_le _⟩ rfl rfl (Nat.le_of_ble_eq_true rfl) gd_Law_gear_4 (fun H locs hW => ?_)
  refine lv_i2l hx hb gd_Law_gear_7 rfl ?_
  obtain ⟨g7, h⟩ := gf_if_ok h
  refine gw_last C hW o_t2 g7 gd_Law_gear_8 (fun u8 H locs e9 hW => ?_)
  have h := gf_nm_ok e9 h
  refine lv_goto (tgt := 18) hx hb gd_Law_gear_9 (by decide) ?_
  refine lv_iconst (v := 0) hx hb gd_Law_gear_18 (by decide) ?_
  obtain rfl := Option.some.inj h
  refine W.widen (k := 1) (n := 6) (by decide) (by decide) ?_
  exact gw_iretW C hW hr hk gd_Law_gear_19

set_option maxRecDepth 20000 in
theorem gc_Law_gear (l : Launch) (hfl : l.flags = pinnedFlags ++ [noTraceFlag]) {D : va_G} {cA : Nat → ClassId} {hs : Nat → Nat} {z : gw_Sh} (F : Nat) {u : gw_St} {r0 : Int32 × gw_St} {t0 : Nat} {x1 : Int32} {t2 : Nat} (o_t0 : gw_ok z t0 0) (o_t2 : gw_ok z t2 11) (h : gf_Law_gear F z u t0 x1 t2 = some r0) (sz : Nat) : gw_Mw l gy_Law_gear gb_Law_gear 4 (some .int) [(0, 9, 12, 13), (0, 9, 15, 19)] (xt_rm 7 141) [.ref (hs t0), .int x1, .ref (hs t2)] D cA hs z u sz r0 := by
  refine gw_enterW (by decide) (Nat.le_of_ble_eq_true rfl) ?_
  intro p e s m below meth c ls hsz C hW hr hk htb hZ hN hl
  subst hsz
  exact gx_Law_gear_b0 F C hr hk (xt_rm_ok 7 141) hfl htb hZ hN u t0 x1 t2 o_t0 o_t2 hW (lv_sub hl [0, 1, 2] rfl) h
-- GearDeskLaw.mesh(LGearDesk;II[J)I
theorem gk_894 : Cond.methodLink R_Law 39 gy_Desk_mesh ∈ gt_T := gt_m4 (List.mem_of_getElem? (i := 195) rfl) rfl
theorem gk_895 : Cond.instanceMethod gy_Desk_mesh ∈ gt_T := gt_m4 (List.mem_of_getElem? (i := 196) rfl) rfl
theorem gk_896 : Cond.selects R_Desk gy_Desk_mesh gy_Desk_mesh ∈ gt_T := gt_m4 (List.mem_of_getElem? (i := 197) rfl) rfl
def gy_Law_mesh : MethodName := ⟨R_Law, "mesh", "(LGearDesk;II[J)I"⟩
abbrev gb_Law_mesh : ByteArray := method_9_code
theorem gk_897 : Cond.codeWith gy_Law_mesh gb_Law_mesh 5 (some .int) [(0, 10, 13, 25), (0, 10, 17, 13), (0, 10, 21, 19)] ∈ gt_T := gt_m4 (List.mem_of_getElem? (i := 194) rfl) rfl
theorem gm_Law_mesh : gw_MthW gy_Law_mesh gb_Law_mesh 5 (some .int) [(0, 10, 13, 25), (0, 10, 17, 13), (0, 10, 21, 19)] 4 := ⟨gk_897, gk_870, ⟨by decide +kernel, by decide +kernel⟩, by decide +kernel⟩
theorem gd_Law_mesh_0 : decode gb_Law_mesh 0 = .ok (.aload_n 3, 1) := by decide +kernel
theorem gd_Law_mesh_1 : decode gb_Law_mesh 1 = .ok (.iconst 0, 1) := by decide +kernel
theorem gd_Law_mesh_2 : decode gb_Law_mesh 2 = .ok (.aload_n 0, 1) := by decide +kernel
theorem gd_Law_mesh_3 : decode gb_Law_mesh 3 = .ok (.iload_n 1, 1) := by decide +kernel
theorem gd_Law_mesh_4 : decode gb_Law_mesh 4 = .ok (.iload_n 2, 1) := by decide +kernel
theorem gd_Law_mesh_5 : decode gb_Law_mesh 5 = .ok (.invokevirtual 39, 3) := by decide +kernel
theorem gd_Law_mesh_8 : decode gb_Law_mesh 8 = .ok (.i2l, 1) := by decide +kernel
theorem gd_Law_mesh_9 : decode gb_Law_mesh 9 = .ok (.lastore, 1) := by decide +kernel
theorem gd_Law_mesh_10 : decode gb_Law_mesh 10 = .ok (.goto 15, 3) := by decide +kernel
theorem gd_Law_mesh_13 : decode gb_Law_mesh 13 = .ok (.astore 4, 2) := by decide +kernel
theorem gd_Law_mesh_15 : decode gb_Law_mesh 15 = .ok (.iconst 1, 1) := by decide +kernel
theorem gd_Law_mesh_16 : decode gb_Law_mesh 16 = .ok (.ireturn, 1) := by decide +kernel
theorem gd_Law_mesh_17 : decode gb_Law_mesh 17 = .ok (.astore 4, 2) := by decide +kernel
theorem gd_Law_mesh_19 : decode gb_Law_mesh 19 = .ok (.iconst 2, 1) := by decide +kernel
theorem gd_Law_mesh_20 : decode gb_Law_mesh 20 = .ok (.ireturn, 1) := by decide +kernel
theorem gd_Law_mesh_21 : decode gb_Law_mesh 21 = .ok (.astore 4, 2) := by decide +kernel
theorem gd_Law_mesh_23 : decode gb_Law_mesh 23 = .ok (.iconst 3, 1) := by decide +kernel
theorem gd_Law_mesh_24 : decode gb_Law_mesh 24 = .ok (.ireturn, 1) := by decide +kernel
theorem gd_Law_mesh_25 : decode gb_Law_mesh 25 = .ok (.iconst 0, 1) := by decide +kernel
theorem gd_Law_mesh_26 : decode gb_Law_mesh 26 = .ok (.ireturn, 1) := by decide +kernel
def gf_Law_mesh_b0 (F : Nat) (z : gw_Sh)  (u : gw_St) (t0 : Nat) (x1 : Int32) (x2 : Int32) (t3 : Nat) : Option (Int32 × gw_St) :=
  gf_ch (gf_Desk_mesh F z u t0 x1 x2) (fun k w => if k = 3 then some (1, w) else if k = 1 then some (2, w) else if k = 2 then some (3, w) else none) fun a3 u1 => if ((0 : Int32) < 0 ∨ z.2.2 t3 ≤ ((0 : Int32)).toNatClampNeg) then none else gf_nm (gw_wl u1 t3 ((0 : Int32)).toNatClampNeg ((a3).toInt64)) fun u9 => some ((0 : Int32), u9)
def gf_Law_mesh (F : Nat) (z : gw_Sh) (u : gw_St) (t0 : Nat) (x1 : Int32) (x2 : Int32) (t3 : Nat) : Option (Int32 × gw_St) := gf_Law_mesh_b0 F z  u t0 x1 x2 t3
set_option maxHeartbeats 4000000 in
set_option maxRecDepth 20000 in
theorem gx_Law_mesh_b0 {p : Program} {l : Launch} {e : Env} {s : State} {m : MethodId} {args : Array Value} {below : List Frame} {meth : Method} {c : Code} {D : va_G} {cA : Nat → ClassId} {hs : Nat → Nat} {z : gw_Sh} (F : Nat) {r0 : (Int32 × gw_St)} (C : gw_Cx p s m args c gb_Law_mesh 5 R_Law D cA) (hr : meth.sig.returnType = (some .int)) (hk : meth.locks = false) {R : Room} (hR : 9 ≤ R.frames ∧ 185 ≤ R.locals ∧ 1 ≤ R.cells ∧ 6 ≤ R.slots) (hfl : l.flags = pinnedFlags ++ [noTraceFlag]) (htb : c.exceptionTable.toList = List.map xw_e [(0, 10, 13, 25), (0, 10, 17, 13), (0, 10, 21, 19)]) (hZ : xt_Zs (gw_A hs z s.heap.size) s s.heap) (hN : xt_Nn s) (u : gw_St) (t0 : Nat) (x1 : Int32) (x2 : Int32) (t3 : Nat) (o_t0 : gw_ok z t0 0) (o_t3 : gw_ok z t3 11) {H : Heap} {locs : List Loc} {ls : Array Slot} (hW : gw_Wx D cA hs z s u H locs) (hl : lv_has ls 5 [(0, .ref (hs t0)), (1, .int x1), (2, .int x2), (3, .ref (hs t3))]) (h : gf_Law_mesh_b0 F z   u t0 x1 x2 t3 = some r0) : gw_Gw p l e R s m args below meth c D cA hs z r0 H locs ls 0 [] := by
  obtain ⟨hx, hb, hml, hown, hts, hK⟩ := id C
  unfold gf_Law_mesh_b0 at h
  refine lv_aload_n hx hb gd_Law_mesh_0 rfl (lv_at hl 3 rfl) ?_
  refine lv_iconst (v := 0) hx hb gd_Law_mesh_1 (by decide) ?_
  refine lv_aload_n hx hb gd_Law_mesh_2 rfl (lv_at hl 0 rfl) ?_
  refine lv_iload_n hx hb gd_Law_mesh_3 rfl (lv_at hl 1 rfl) ?_
  refine lv_iload_n hx hb gd_Law_mesh_4 rfl (lv_at hl 2 rfl) ?_
  rcases gf_ch_ok h with ⟨k4, u1, d2, h⟩ | ⟨a3, u1, d2, h⟩
  · by_cases c5 : k4 = 3
    · subst c5
      have h := gf_t rfl h
      obtain rfl := Option.some.inj h
      refine xt_catch (K := R_Desk) (As := [.int x1, .int x2]) (rest := [.int (0 : Int32), .ref (hs t3)]) C hW (fun _ h => Or.inr h) hZ hl.1 gm_Desk_mesh (gt_Desk_mesh l hfl F o_t0 d2 _) gk_894 gk_895 gk_896 o_t0 (by decide) rfl rfl rfl ⟨(Nat.le_trans (m := 9) (Nat.le_of_ble_eq_true rfl) hR.1), (Nat.le_trans (m := 185) (Nat.le_of_ble_eq_true rfl) hR.2.1)⟩ ⟨hR.2.2.1, hR.2.2.2⟩ rfl rfl (Nat.le_of_ble_eq_true rfl) gd_Law_mesh_5 (w := xw_e (0, 10, 13, 25)) (pre := []) (more := [xw_e (0, 10, 17, 13), xw_e (0, 10, 21, 19)]) htb xw_n (by decide) (by decide) gk_880 (fun x H locs hW => ?_)
      refine W.widen (k := 1) (n := 6) (by decide) (by decide) ?_
      refine lv_astore (lv' := [(4, .ref x)]) hx hb gd_Law_mesh_13 (lv_sub hl [] rfl) (by decide) rfl (fun ls hl => ?_)
      refine lv_iconst (v := 1) hx hb gd_Law_mesh_15 (by decide) ?_
      exact gw_iretW C hW hr hk gd_Law_mesh_16
    have h := gf_f c5 h
    by_cases c6 : k4 = 1
    · subst c6
      have h := gf_t rfl h
      obtain rfl := Option.some.inj h
      refine xt_catch (K := R_Desk) (As := [.int x1, .int x2]) (rest := [.int (0 : Int32), .ref (hs t3)]) C hW (fun _ h => Or.inr h) hZ hl.1 gm_Desk_mesh (gt_Desk_mesh l hfl F o_t0 d2 _) gk_894 gk_895 gk_896 o_t0 (by decide) rfl rfl rfl ⟨(Nat.le_trans (m := 9) (Nat.le_of_ble_eq_true rfl) hR.1), (Nat.le_trans (m := 185) (Nat.le_of_ble_eq_true rfl) hR.2.1)⟩ ⟨hR.2.2.1, hR.2.2.2⟩ rfl rfl (Nat.le_of_ble_eq_true rfl) gd_Law_mesh_5 (w := xw_e (0, 10, 17, 13)) (pre := [(xw_e (0, 10, 13, 25), xt_nm 3)]) (more := [xw_e (0, 10, 21, 19)]) htb (xw_c ⟨by decide, by decide, gk_880, hN 1 (by decide) 3 (by decide) (by decide)⟩ xw_n) (by decide) (by decide) gk_869 (fun x H locs hW => ?_)
      refine W.widen (k := 1) (n := 6) (by decide) (by decide) ?_
      refine lv_astore (lv' := [(4, .ref x)]) hx hb gd_Law_mesh_17 (lv_sub hl [] rfl) (by decide) rfl (fun ls hl => ?_)
      refine lv_iconst (v := 2) hx hb gd_Law_mesh_19 (by decide) ?_
      exact gw_iretW C hW hr hk gd_Law_mesh_20
    have h := gf_f c6 h
    by_cases c7 : k4 = 2
    · subst c7
      have h := gf_t rfl h
      obtain rfl := Option.some.inj h
      refine xt_catch (K := R_Desk) (As := [.int x1, .int x2]) (rest := [.int (0 : Int32), .ref (hs t3)]) C hW (fun _ h => Or.inr h) hZ hl.1 gm_Desk_mesh (gt_Desk_mesh l hfl F o_t0 d2 _) gk_894 gk_895 gk_896 o_t0 (by decide) rfl rfl rfl ⟨(Nat.le_trans (m := 9) (Nat.le_of_ble_eq_true rfl) hR.1), (Nat.le_trans (m := 185) (Nat.le_of_ble_eq_true rfl) hR.2.1)⟩ ⟨hR.2.2.1, hR.2.2.2⟩ rfl rfl (Nat.le_of_ble_eq_true rfl) gd_Law_mesh_5 (w := xw_e (0, 10, 21, 19)) (pre := [(xw_e (0, 10, 13, 25), xt_nm 3), (xw_e (0, 10, 17, 13), xt_nm 1)]) (more := []) htb (xw_c ⟨by decide, by decide, gk_880, hN 2 (by decide) 3 (by decide) (by decide)⟩ (xw_c ⟨by decide, by decide, gk_869, hN 2 (by decide) 1 (by decide) (by decide)⟩ xw_n)) (by decide) (by decide) gk_875 (fun x H locs hW => ?_)
      refine W.widen (k := 1) (n := 6) (by decide) (by decide) ?_
      refine lv_astore (lv' := [(4, .ref x)]) hx hb gd_Law_mesh_21 (lv_sub hl [] rfl) (by decide) rfl (fun ls hl => ?_)
      refine lv_iconst (v := 3) hx hb gd_Law_mesh_23 (by decide) ?_
      exact gw_iretW C hW hr hk gd_Law_mesh_24
    have h := gf_f c7 h
    cases h
  refine gw_callVi (K := R_Desk) (As := [.int x1, .int x2]) (rest := [.int (0 : Int32), .ref (hs t3)]) C hW (fun _ h => Or.inr h) hl.1 gm_Desk_mesh (gc_Desk_mesh l hfl F o_t0 d2 _) gk_894 gk_895 gk_896 o_t0 (by decide) rfl rfl rfl ⟨(Nat.le_trans (m := 9) (Nat.le_of_ble_eq_true rfl) hR.1), (Nat.le_trans (m := 185) (Nat.le_of_ble_eq_true rfl) hR.2.1)⟩ ⟨Nat.zero_le _, Nat.zero_le _⟩ rfl rfl (Nat.le_of_ble_eq_true rfl) gd_Law_mesh_5 (fun H locs hW => ?_)
  refine lv_i2l hx hb gd_Law_mesh_8 rfl ?_
  obtain ⟨g8, h⟩ := gf_if_ok h
  refine gw_last C hW o_t3 g8 gd_Law_mesh_9 (fun u9 H locs e10 hW => ?_)
  have h := gf_nm_ok e10 h
  refine lv_goto (tgt := 25) hx hb gd_Law_mesh_10 (by decide) ?_
  refine lv_iconst (v := 0) hx hb gd_Law_mesh_25 (by decide) ?_
  obtain rfl := Option.some.inj h
  refine W.widen (k := 1) (n := 6) (by decide) (by decide) ?_
  exact gw_iretW C hW hr hk gd_Law_mesh_26

set_option maxRecDepth 20000 in
theorem gc_Law_mesh (l : Launch) (hfl : l.flags = pinnedFlags ++ [noTraceFlag]) {D : va_G} {cA : Nat → ClassId} {hs : Nat → Nat} {z : gw_Sh} (F : Nat) {u : gw_St} {r0 : Int32 × gw_St} {t0 : Nat} {x1 : Int32} {x2 : Int32} {t3 : Nat} (o_t0 : gw_ok z t0 0) (o_t3 : gw_ok z t3 11) (h : gf_Law_mesh F z u t0 x1 x2 t3 = some r0) (sz : Nat) : gw_Mw l gy_Law_mesh gb_Law_mesh 5 (some .int) [(0, 10, 13, 25), (0, 10, 17, 13), (0, 10, 21, 19)] (xt_rm 9 185) [.ref (hs t0), .int x1, .int x2, .ref (hs t3)] D cA hs z u sz r0 := by
  refine gw_enterW (by decide) (Nat.le_of_ble_eq_true rfl) ?_
  intro p e s m below meth c ls hsz C hW hr hk htb hZ hN hl
  subst hsz
  exact gx_Law_mesh_b0 F C hr hk (xt_rm_ok 9 185) hfl htb hZ hN u t0 x1 x2 t3 o_t0 o_t3 hW (lv_sub hl [0, 1, 2, 3] rfl) h
-- GearDeskLaw.inner(LGearDesk;II[J)I
theorem gk_898 : Cond.methodLink R_Law 42 gy_Desk_inner ∈ gt_T := gt_m4 (List.mem_of_getElem? (i := 218) rfl) rfl
theorem gk_899 : Cond.instanceMethod gy_Desk_inner ∈ gt_T := gt_m4 (List.mem_of_getElem? (i := 219) rfl) rfl
theorem gk_900 : Cond.selects R_Desk gy_Desk_inner gy_Desk_inner ∈ gt_T := gt_m4 (List.mem_of_getElem? (i := 220) rfl) rfl
def gy_Law_inner : MethodName := ⟨R_Law, "inner", "(LGearDesk;II[J)I"⟩
abbrev gb_Law_inner : ByteArray := method_10_code
theorem gk_901 : Cond.codeWith gy_Law_inner gb_Law_inner 5 (some .int) [(0, 10, 13, 25), (0, 10, 17, 13), (0, 10, 21, 19)] ∈ gt_T := gt_m4 (List.mem_of_getElem? (i := 217) rfl) rfl
theorem gm_Law_inner : gw_MthW gy_Law_inner gb_Law_inner 5 (some .int) [(0, 10, 13, 25), (0, 10, 17, 13), (0, 10, 21, 19)] 4 := ⟨gk_901, gk_870, ⟨by decide +kernel, by decide +kernel⟩, by decide +kernel⟩
theorem gd_Law_inner_0 : decode gb_Law_inner 0 = .ok (.aload_n 3, 1) := by decide +kernel
theorem gd_Law_inner_1 : decode gb_Law_inner 1 = .ok (.iconst 0, 1) := by decide +kernel
theorem gd_Law_inner_2 : decode gb_Law_inner 2 = .ok (.aload_n 0, 1) := by decide +kernel
theorem gd_Law_inner_3 : decode gb_Law_inner 3 = .ok (.iload_n 1, 1) := by decide +kernel
theorem gd_Law_inner_4 : decode gb_Law_inner 4 = .ok (.iload_n 2, 1) := by decide +kernel
theorem gd_Law_inner_5 : decode gb_Law_inner 5 = .ok (.invokevirtual 42, 3) := by decide +kernel
theorem gd_Law_inner_8 : decode gb_Law_inner 8 = .ok (.i2l, 1) := by decide +kernel
theorem gd_Law_inner_9 : decode gb_Law_inner 9 = .ok (.lastore, 1) := by decide +kernel
theorem gd_Law_inner_10 : decode gb_Law_inner 10 = .ok (.goto 15, 3) := by decide +kernel
theorem gd_Law_inner_13 : decode gb_Law_inner 13 = .ok (.astore 4, 2) := by decide +kernel
theorem gd_Law_inner_15 : decode gb_Law_inner 15 = .ok (.iconst 1, 1) := by decide +kernel
theorem gd_Law_inner_16 : decode gb_Law_inner 16 = .ok (.ireturn, 1) := by decide +kernel
theorem gd_Law_inner_17 : decode gb_Law_inner 17 = .ok (.astore 4, 2) := by decide +kernel
theorem gd_Law_inner_19 : decode gb_Law_inner 19 = .ok (.iconst 2, 1) := by decide +kernel
theorem gd_Law_inner_20 : decode gb_Law_inner 20 = .ok (.ireturn, 1) := by decide +kernel
theorem gd_Law_inner_21 : decode gb_Law_inner 21 = .ok (.astore 4, 2) := by decide +kernel
theorem gd_Law_inner_23 : decode gb_Law_inner 23 = .ok (.iconst 3, 1) := by decide +kernel
theorem gd_Law_inner_24 : decode gb_Law_inner 24 = .ok (.ireturn, 1) := by decide +kernel
theorem gd_Law_inner_25 : decode gb_Law_inner 25 = .ok (.iconst 0, 1) := by decide +kernel
theorem gd_Law_inner_26 : decode gb_Law_inner 26 = .ok (.ireturn, 1) := by decide +kernel
def gf_Law_inner_b0 (F : Nat) (z : gw_Sh)  (u : gw_St) (t0 : Nat) (x1 : Int32) (x2 : Int32) (t3 : Nat) : Option (Int32 × gw_St) :=
  gf_ch (gf_Desk_inner F z u t0 x1 x2) (fun k w => if k = 3 then some (1, w) else if k = 1 then some (2, w) else if k = 2 then some (3, w) else none) fun a3 u1 => if ((0 : Int32) < 0 ∨ z.2.2 t3 ≤ ((0 : Int32)).toNatClampNeg) then none else gf_nm (gw_wl u1 t3 ((0 : Int32)).toNatClampNeg ((a3).toInt64)) fun u9 => some ((0 : Int32), u9)
def gf_Law_inner (F : Nat) (z : gw_Sh) (u : gw_St) (t0 : Nat) (x1 : Int32) (x2 : Int32) (t3 : Nat) : Option (Int32 × gw_St) := gf_Law_inner_b0 F z  u t0 x1 x2 t3
set_option maxHeartbeats 4000000 in
set_option maxRecDepth 20000 in
theorem gx_Law_inner_b0 {p : Program} {l : Launch} {e : Env} {s : State} {m : MethodId} {args : Array Value} {below : List Frame} {meth : Method} {c : Code} {D : va_G} {cA : Nat → ClassId} {hs : Nat → Nat} {z : gw_Sh} (F : Nat) {r0 : (Int32 × gw_St)} (C : gw_Cx p s m args c gb_Law_inner 5 R_Law D cA) (hr : meth.sig.returnType = (some .int)) (hk : meth.locks = false) {R : Room} (hR : 9 ≤ R.frames ∧ 185 ≤ R.locals ∧ 1 ≤ R.cells ∧ 6 ≤ R.slots) (hfl : l.flags = pinnedFlags ++ [noTraceFlag]) (htb : c.exceptionTable.toList = List.map xw_e [(0, 10, 13, 25), (0, 10, 17, 13), (0, 10, 21, 19)]) (hZ : xt_Zs (gw_A hs z s.heap.size) s s.heap) (hN : xt_Nn s) (u : gw_St) (t0 : Nat) (x1 : Int32) (x2 : Int32) (t3 : Nat) (o_t0 : gw_ok z t0 0) (o_t3 : gw_ok z t3 11) {H : Heap} {locs : List Loc} {ls : Array Slot} (hW : gw_Wx D cA hs z s u H locs) (hl : lv_has ls 5 [(0, .ref (hs t0)), (1, .int x1), (2, .int x2), (3, .ref (hs t3))]) (h : gf_Law_inner_b0 F z   u t0 x1 x2 t3 = some r0) : gw_Gw p l e R s m args below meth c D cA hs z r0 H locs ls 0 [] := by
  obtain ⟨hx, hb, hml, hown, hts, hK⟩ := id C
  unfold gf_Law_inner_b0 at h
  refine lv_aload_n hx hb gd_Law_inner_0 rfl (lv_at hl 3 rfl) ?_
  refine lv_iconst (v := 0) hx hb gd_Law_inner_1 (by decide) ?_
  refine lv_aload_n hx hb gd_Law_inner_2 rfl (lv_at hl 0 rfl) ?_
  refine lv_iload_n hx hb gd_Law_inner_3 rfl (lv_at hl 1 rfl) ?_
  refine lv_iload_n hx hb gd_Law_inner_4 rfl (lv_at hl 2 rfl) ?_
  rcases gf_ch_ok h with ⟨k4, u1, d2, h⟩ | ⟨a3, u1, d2, h⟩
  · by_cases c5 : k4 = 3
    · subst c5
      have h := gf_t rfl h
      obtain rfl := Option.some.inj h
      refine xt_catch (K := R_Desk) (As := [.int x1, .int x2]) (rest := [.int (0 : Int32), .ref (hs t3)]) C hW (fun _ h => Or.inr h) hZ hl.1 gm_Desk_inner (gt_Desk_inner l hfl F o_t0 d2 _) gk_898 gk_899 gk_900 o_t0 (by decide) rfl rfl rfl ⟨(Nat.le_trans (m := 9) (Nat.le_of_ble_eq_true rfl) hR.1), (Nat.le_trans (m := 185) (Nat.le_of_ble_eq_true rfl) hR.2.1)⟩ ⟨hR.2.2.1, hR.2.2.2⟩ rfl rfl (Nat.le_of_ble_eq_true rfl) gd_Law_inner_5 (w := xw_e (0, 10, 13, 25)) (pre := []) (more := [xw_e (0, 10, 17, 13), xw_e (0, 10, 21, 19)]) htb xw_n (by decide) (by decide) gk_880 (fun x H locs hW => ?_)
      refine W.widen (k := 1) (n := 6) (by decide) (by decide) ?_
      refine lv_astore (lv' := [(4, .ref x)]) hx hb gd_Law_inner_13 (lv_sub hl [] rfl) (by decide) rfl (fun ls hl => ?_)
      refine lv_iconst (v := 1) hx hb gd_Law_inner_15 (by decide) ?_
      exact gw_iretW C hW hr hk gd_Law_inner_16
    have h := gf_f c5 h
    by_cases c6 : k4 = 1
    · subst c6
      have h := gf_t rfl h
      obtain rfl := Option.some.inj h
      refine xt_catch (K := R_Desk) (As := [.int x1, .int x2]) (rest := [.int (0 : Int32), .ref (hs t3)]) C hW (fun _ h => Or.inr h) hZ hl.1 gm_Desk_inner (gt_Desk_inner l hfl F o_t0 d2 _) gk_898 gk_899 gk_900 o_t0 (by decide) rfl rfl rfl ⟨(Nat.le_trans (m := 9) (Nat.le_of_ble_eq_true rfl) hR.1), (Nat.le_trans (m := 185) (Nat.le_of_ble_eq_true rfl) hR.2.1)⟩ ⟨hR.2.2.1, hR.2.2.2⟩ rfl rfl (Nat.le_of_ble_eq_true rfl) gd_Law_inner_5 (w := xw_e (0, 10, 17, 13)) (pre := [(xw_e (0, 10, 13, 25), xt_nm 3)]) (more := [xw_e (0, 10, 21, 19)]) htb (xw_c ⟨by decide, by decide, gk_880, hN 1 (by decide) 3 (by decide) (by decide)⟩ xw_n) (by decide) (by decide) gk_869 (fun x H locs hW => ?_)
      refine W.widen (k := 1) (n := 6) (by decide) (by decide) ?_
      refine lv_astore (lv' := [(4, .ref x)]) hx hb gd_Law_inner_17 (lv_sub hl [] rfl) (by decide) rfl (fun ls hl => ?_)
      refine lv_iconst (v := 2) hx hb gd_Law_inner_19 (by decide) ?_
      exact gw_iretW C hW hr hk gd_Law_inner_20
    have h := gf_f c6 h
    by_cases c7 : k4 = 2
    · subst c7
      have h := gf_t rfl h
      obtain rfl := Option.some.inj h
      refine xt_catch (K := R_Desk) (As := [.int x1, .int x2]) (rest := [.int (0 : Int32), .ref (hs t3)]) C hW (fun _ h => Or.inr h) hZ hl.1 gm_Desk_inner (gt_Desk_inner l hfl F o_t0 d2 _) gk_898 gk_899 gk_900 o_t0 (by decide) rfl rfl rfl ⟨(Nat.le_trans (m := 9) (Nat.le_of_ble_eq_true rfl) hR.1), (Nat.le_trans (m := 185) (Nat.le_of_ble_eq_true rfl) hR.2.1)⟩ ⟨hR.2.2.1, hR.2.2.2⟩ rfl rfl (Nat.le_of_ble_eq_true rfl) gd_Law_inner_5 (w := xw_e (0, 10, 21, 19)) (pre := [(xw_e (0, 10, 13, 25), xt_nm 3), (xw_e (0, 10, 17, 13), xt_nm 1)]) (more := []) htb (xw_c ⟨by decide, by decide, gk_880, hN 2 (by decide) 3 (by decide) (by decide)⟩ (xw_c ⟨by decide, by decide, gk_869, hN 2 (by decide) 1 (by decide) (by decide)⟩ xw_n)) (by decide) (by decide) gk_875 (fun x H locs hW => ?_)
      refine W.widen (k := 1) (n := 6) (by decide) (by decide) ?_
      refine lv_astore (lv' := [(4, .ref x)]) hx hb gd_Law_inner_21 (lv_sub hl [] rfl) (by decide) rfl (fun ls hl => ?_)
      refine lv_iconst (v := 3) hx hb gd_Law_inner_23 (by decide) ?_
      exact gw_iretW C hW hr hk gd_Law_inner_24
    have h := gf_f c7 h
    cases h
  refine gw_callVi (K := R_Desk) (As := [.int x1, .int x2]) (rest := [.int (0 : Int32), .ref (hs t3)]) C hW (fun _ h => Or.inr h) hl.1 gm_Desk_inner (gc_Desk_inner l hfl F o_t0 d2 _) gk_898 gk_899 gk_900 o_t0 (by decide) rfl rfl rfl ⟨(Nat.le_trans (m := 9) (Nat.le_of_ble_eq_true rfl) hR.1), (Nat.le_trans (m := 185) (Nat.le_of_ble_eq_true rfl) hR.2.1)⟩ ⟨Nat.zero_le _, Nat.zero_le _⟩ rfl rfl (Nat.le_of_ble_eq_true rfl) gd_Law_inner_5 (fun H locs hW => ?_)
  refine lv_i2l hx hb gd_Law_inner_8 rfl ?_
  obtain ⟨g8, h⟩ := gf_if_ok h
  refine gw_last C hW o_t3 g8 gd_Law_inner_9 (fun u9 H locs e10 hW => ?_)
  have h := gf_nm_ok e10 h
  refine lv_goto (tgt := 25) hx hb gd_Law_inner_10 (by decide) ?_
  refine lv_iconst (v := 0) hx hb gd_Law_inner_25 (by decide) ?_
  obtain rfl := Option.some.inj h
  refine W.widen (k := 1) (n := 6) (by decide) (by decide) ?_
  exact gw_iretW C hW hr hk gd_Law_inner_26

set_option maxRecDepth 20000 in
theorem gc_Law_inner (l : Launch) (hfl : l.flags = pinnedFlags ++ [noTraceFlag]) {D : va_G} {cA : Nat → ClassId} {hs : Nat → Nat} {z : gw_Sh} (F : Nat) {u : gw_St} {r0 : Int32 × gw_St} {t0 : Nat} {x1 : Int32} {x2 : Int32} {t3 : Nat} (o_t0 : gw_ok z t0 0) (o_t3 : gw_ok z t3 11) (h : gf_Law_inner F z u t0 x1 x2 t3 = some r0) (sz : Nat) : gw_Mw l gy_Law_inner gb_Law_inner 5 (some .int) [(0, 10, 13, 25), (0, 10, 17, 13), (0, 10, 21, 19)] (xt_rm 9 185) [.ref (hs t0), .int x1, .int x2, .ref (hs t3)] D cA hs z u sz r0 := by
  refine gw_enterW (by decide) (Nat.le_of_ble_eq_true rfl) ?_
  intro p e s m below meth c ls hsz C hW hr hk htb hZ hN hl
  subst hsz
  exact gx_Law_inner_b0 F C hr hk (xt_rm_ok 9 185) hfl htb hZ hN u t0 x1 x2 t3 o_t0 o_t3 hW (lv_sub hl [0, 1, 2, 3] rfl) h
-- GearDeskLaw.arbor(LGearDesk;II[J)I
theorem gk_902 : Cond.methodLink R_Law 45 gy_Desk_arbor ∈ gt_T := gt_m4 (List.mem_of_getElem? (i := 225) rfl) rfl
theorem gk_903 : Cond.instanceMethod gy_Desk_arbor ∈ gt_T := gt_m4 (List.mem_of_getElem? (i := 226) rfl) rfl
theorem gk_904 : Cond.selects R_Desk gy_Desk_arbor gy_Desk_arbor ∈ gt_T := gt_m4 (List.mem_of_getElem? (i := 227) rfl) rfl
def gy_Law_arbor : MethodName := ⟨R_Law, "arbor", "(LGearDesk;II[J)I"⟩
abbrev gb_Law_arbor : ByteArray := method_11_code
theorem gk_905 : Cond.codeWith gy_Law_arbor gb_Law_arbor 5 (some .int) [(0, 10, 13, 25), (0, 10, 17, 13), (0, 10, 21, 19)] ∈ gt_T := gt_m4 (List.mem_of_getElem? (i := 224) rfl) rfl
theorem gm_Law_arbor : gw_MthW gy_Law_arbor gb_Law_arbor 5 (some .int) [(0, 10, 13, 25), (0, 10, 17, 13), (0, 10, 21, 19)] 4 := ⟨gk_905, gk_870, ⟨by decide +kernel, by decide +kernel⟩, by decide +kernel⟩
theorem gd_Law_arbor_0 : decode gb_Law_arbor 0 = .ok (.aload_n 3, 1) := by decide +kernel
theorem gd_Law_arbor_1 : decode gb_Law_arbor 1 = .ok (.iconst 0, 1) := by decide +kernel
theorem gd_Law_arbor_2 : decode gb_Law_arbor 2 = .ok (.aload_n 0, 1) := by decide +kernel
theorem gd_Law_arbor_3 : decode gb_Law_arbor 3 = .ok (.iload_n 1, 1) := by decide +kernel
theorem gd_Law_arbor_4 : decode gb_Law_arbor 4 = .ok (.iload_n 2, 1) := by decide +kernel
theorem gd_Law_arbor_5 : decode gb_Law_arbor 5 = .ok (.invokevirtual 45, 3) := by decide +kernel
theorem gd_Law_arbor_8 : decode gb_Law_arbor 8 = .ok (.i2l, 1) := by decide +kernel
theorem gd_Law_arbor_9 : decode gb_Law_arbor 9 = .ok (.lastore, 1) := by decide +kernel
theorem gd_Law_arbor_10 : decode gb_Law_arbor 10 = .ok (.goto 15, 3) := by decide +kernel
theorem gd_Law_arbor_13 : decode gb_Law_arbor 13 = .ok (.astore 4, 2) := by decide +kernel
theorem gd_Law_arbor_15 : decode gb_Law_arbor 15 = .ok (.iconst 1, 1) := by decide +kernel
theorem gd_Law_arbor_16 : decode gb_Law_arbor 16 = .ok (.ireturn, 1) := by decide +kernel
theorem gd_Law_arbor_17 : decode gb_Law_arbor 17 = .ok (.astore 4, 2) := by decide +kernel
theorem gd_Law_arbor_19 : decode gb_Law_arbor 19 = .ok (.iconst 2, 1) := by decide +kernel
theorem gd_Law_arbor_20 : decode gb_Law_arbor 20 = .ok (.ireturn, 1) := by decide +kernel
theorem gd_Law_arbor_21 : decode gb_Law_arbor 21 = .ok (.astore 4, 2) := by decide +kernel
theorem gd_Law_arbor_23 : decode gb_Law_arbor 23 = .ok (.iconst 3, 1) := by decide +kernel
theorem gd_Law_arbor_24 : decode gb_Law_arbor 24 = .ok (.ireturn, 1) := by decide +kernel
theorem gd_Law_arbor_25 : decode gb_Law_arbor 25 = .ok (.iconst 0, 1) := by decide +kernel
theorem gd_Law_arbor_26 : decode gb_Law_arbor 26 = .ok (.ireturn, 1) := by decide +kernel
def gf_Law_arbor_b0 (F : Nat) (z : gw_Sh)  (u : gw_St) (t0 : Nat) (x1 : Int32) (x2 : Int32) (t3 : Nat) : Option (Int32 × gw_St) :=
  gf_ch (gf_Desk_arbor F z u t0 x1 x2) (fun k w => if k = 3 then some (1, w) else if k = 1 then some (2, w) else if k = 2 then some (3, w) else none) fun a3 u1 => if ((0 : Int32) < 0 ∨ z.2.2 t3 ≤ ((0 : Int32)).toNatClampNeg) then none else gf_nm (gw_wl u1 t3 ((0 : Int32)).toNatClampNeg ((a3).toInt64)) fun u9 => some ((0 : Int32), u9)
def gf_Law_arbor (F : Nat) (z : gw_Sh) (u : gw_St) (t0 : Nat) (x1 : Int32) (x2 : Int32) (t3 : Nat) : Option (Int32 × gw_St) := gf_Law_arbor_b0 F z  u t0 x1 x2 t3
set_option maxHeartbeats 4000000 in
set_option maxRecDepth 20000 in
theorem gx_Law_arbor_b0 {p : Program} {l : Launch} {e : Env} {s : State} {m : MethodId} {args : Array Value} {below : List Frame} {meth : Method} {c : Code} {D : va_G} {cA : Nat → ClassId} {hs : Nat → Nat} {z : gw_Sh} (F : Nat) {r0 : (Int32 × gw_St)} (C : gw_Cx p s m args c gb_Law_arbor 5 R_Law D cA) (hr : meth.sig.returnType = (some .int)) (hk : meth.locks = false) {R : Room} (hR : 9 ≤ R.frames ∧ 185 ≤ R.locals ∧ 1 ≤ R.cells ∧ 6 ≤ R.slots) (hfl : l.flags = pinnedFlags ++ [noTraceFlag]) (htb : c.exceptionTable.toList = List.map xw_e [(0, 10, 13, 25), (0, 10, 17, 13), (0, 10, 21, 19)]) (hZ : xt_Zs (gw_A hs z s.heap.size) s s.heap) (hN : xt_Nn s) (u : gw_St) (t0 : Nat) (x1 : Int32) (x2 : Int32) (t3 : Nat) (o_t0 : gw_ok z t0 0) (o_t3 : gw_ok z t3 11) {H : Heap} {locs : List Loc} {ls : Array Slot} (hW : gw_Wx D cA hs z s u H locs) (hl : lv_has ls 5 [(0, .ref (hs t0)), (1, .int x1), (2, .int x2), (3, .ref (hs t3))]) (h : gf_Law_arbor_b0 F z   u t0 x1 x2 t3 = some r0) : gw_Gw p l e R s m args below meth c D cA hs z r0 H locs ls 0 [] := by
  obtain ⟨hx, hb, hml, hown, hts, hK⟩ := id C
  unfold gf_Law_arbor_b0 at h
  refine lv_aload_n hx hb gd_Law_arbor_0 rfl (lv_at hl 3 rfl) ?_
  refine lv_iconst (v := 0) hx hb gd_Law_arbor_1 (by decide) ?_
  refine lv_aload_n hx hb gd_Law_arbor_2 rfl (lv_at hl 0 rfl) ?_
  refine lv_iload_n hx hb gd_Law_arbor_3 rfl (lv_at hl 1 rfl) ?_
  refine lv_iload_n hx hb gd_Law_arbor_4 rfl (lv_at hl 2 rfl) ?_
  rcases gf_ch_ok h with ⟨k4, u1, d2, h⟩ | ⟨a3, u1, d2, h⟩
  · by_cases c5 : k4 = 3
    · subst c5
      have h := gf_t rfl h
      obtain rfl := Option.some.inj h
      refine xt_catch (K := R_Desk) (As := [.int x1, .int x2]) (rest := [.int (0 : Int32), .ref (hs t3)]) C hW (fun _ h => Or.inr h) hZ hl.1 gm_Desk_arbor (gt_Desk_arbor l hfl F o_t0 d2 _) gk_902 gk_903 gk_904 o_t0 (by decide) rfl rfl rfl ⟨(Nat.le_trans (m := 9) (Nat.le_of_ble_eq_true rfl) hR.1), (Nat.le_trans (m := 185) (Nat.le_of_ble_eq_true rfl) hR.2.1)⟩ ⟨hR.2.2.1, hR.2.2.2⟩ rfl rfl (Nat.le_of_ble_eq_true rfl) gd_Law_arbor_5 (w := xw_e (0, 10, 13, 25)) (pre := []) (more := [xw_e (0, 10, 17, 13), xw_e (0, 10, 21, 19)]) htb xw_n (by decide) (by decide) gk_880 (fun x H locs hW => ?_)
      refine W.widen (k := 1) (n := 6) (by decide) (by decide) ?_
      refine lv_astore (lv' := [(4, .ref x)]) hx hb gd_Law_arbor_13 (lv_sub hl [] rfl) (by decide) rfl (fun ls hl => ?_)
      refine lv_iconst (v := 1) hx hb gd_Law_arbor_15 (by decide) ?_
      exact gw_iretW C hW hr hk gd_Law_arbor_16
    have h := gf_f c5 h
    by_cases c6 : k4 = 1
    · subst c6
      have h := gf_t rfl h
      obtain rfl := Option.some.inj h
      refine xt_catch (K := R_Desk) (As := [.int x1, .int x2]) (rest := [.int (0 : Int32), .ref (hs t3)]) C hW (fun _ h => Or.inr h) hZ hl.1 gm_Desk_arbor (gt_Desk_arbor l hfl F o_t0 d2 _) gk_902 gk_903 gk_904 o_t0 (by decide) rfl rfl rfl ⟨(Nat.le_trans (m := 9) (Nat.le_of_ble_eq_true rfl) hR.1), (Nat.le_trans (m := 185) (Nat.le_of_ble_eq_true rfl) hR.2.1)⟩ ⟨hR.2.2.1, hR.2.2.2⟩ rfl rfl (Nat.le_of_ble_eq_true rfl) gd_Law_arbor_5 (w := xw_e (0, 10, 17, 13)) (pre := [(xw_e (0, 10, 13, 25), xt_nm 3)]) (more := [xw_e (0, 10, 21, 19)]) htb (xw_c ⟨by decide, by decide, gk_880, hN 1 (by decide) 3 (by decide) (by decide)⟩ xw_n) (by decide) (by decide) gk_869 (fun x H locs hW => ?_)
      refine W.widen (k := 1) (n := 6) (by decide) (by decide) ?_
      refine lv_astore (lv' := [(4, .ref x)]) hx hb gd_Law_arbor_17 (lv_sub hl [] rfl) (by decide) rfl (fun ls hl => ?_)
      refine lv_iconst (v := 2) hx hb gd_Law_arbor_19 (by decide) ?_
      exact gw_iretW C hW hr hk gd_Law_arbor_20
    have h := gf_f c6 h
    by_cases c7 : k4 = 2
    · subst c7
      have h := gf_t rfl h
      obtain rfl := Option.some.inj h
      refine xt_catch (K := R_Desk) (As := [.int x1, .int x2]) (rest := [.int (0 : Int32), .ref (hs t3)]) C hW (fun _ h => Or.inr h) hZ hl.1 gm_Desk_arbor (gt_Desk_arbor l hfl F o_t0 d2 _) gk_902 gk_903 gk_904 o_t0 (by decide) rfl rfl rfl ⟨(Nat.le_trans (m := 9) (Nat.le_of_ble_eq_true rfl) hR.1), (Nat.le_trans (m := 185) (Nat.le_of_ble_eq_true rfl) hR.2.1)⟩ ⟨hR.2.2.1, hR.2.2.2⟩ rfl rfl (Nat.le_of_ble_eq_true rfl) gd_Law_arbor_5 (w := xw_e (0, 10, 21, 19)) (pre := [(xw_e (0, 10, 13, 25), xt_nm 3), (xw_e (0, 10, 17, 13), xt_nm 1)]) (more := []) htb (xw_c ⟨by decide, by decide, gk_880, hN 2 (by decide) 3 (by decide) (by decide)⟩ (xw_c ⟨by decide, by decide, gk_869, hN 2 (by decide) 1 (by decide) (by decide)⟩ xw_n)) (by decide) (by decide) gk_875 (fun x H locs hW => ?_)
      refine W.widen (k := 1) (n := 6) (by decide) (by decide) ?_
      refine lv_astore (lv' := [(4, .ref x)]) hx hb gd_Law_arbor_21 (lv_sub hl [] rfl) (by decide) rfl (fun ls hl => ?_)
      refine lv_iconst (v := 3) hx hb gd_Law_arbor_23 (by decide) ?_
      exact gw_iretW C hW hr hk gd_Law_arbor_24
    have h := gf_f c7 h
    cases h
  refine gw_callVi (K := R_Desk) (As := [.int x1, .int x2]) (rest := [.int (0 : Int32), .ref (hs t3)]) C hW (fun _ h => Or.inr h) hl.1 gm_Desk_arbor (gc_Desk_arbor l hfl F o_t0 d2 _) gk_902 gk_903 gk_904 o_t0 (by decide) rfl rfl rfl ⟨(Nat.le_trans (m := 9) (Nat.le_of_ble_eq_true rfl) hR.1), (Nat.le_trans (m := 185) (Nat.le_of_ble_eq_true rfl) hR.2.1)⟩ ⟨Nat.zero_le _, Nat.zero_le _⟩ rfl rfl (Nat.le_of_ble_eq_true rfl) gd_Law_arbor_5 (fun H locs hW => ?_)
  refine lv_i2l hx hb gd_Law_arbor_8 rfl ?_
  obtain ⟨g8, h⟩ := gf_if_ok h
  refine gw_last C hW o_t3 g8 gd_Law_arbor_9 (fun u9 H locs e10 hW => ?_)
  have h := gf_nm_ok e10 h
  refine lv_goto (tgt := 25) hx hb gd_Law_arbor_10 (by decide) ?_
  refine lv_iconst (v := 0) hx hb gd_Law_arbor_25 (by decide) ?_
  obtain rfl := Option.some.inj h
  refine W.widen (k := 1) (n := 6) (by decide) (by decide) ?_
  exact gw_iretW C hW hr hk gd_Law_arbor_26

set_option maxRecDepth 20000 in
theorem gc_Law_arbor (l : Launch) (hfl : l.flags = pinnedFlags ++ [noTraceFlag]) {D : va_G} {cA : Nat → ClassId} {hs : Nat → Nat} {z : gw_Sh} (F : Nat) {u : gw_St} {r0 : Int32 × gw_St} {t0 : Nat} {x1 : Int32} {x2 : Int32} {t3 : Nat} (o_t0 : gw_ok z t0 0) (o_t3 : gw_ok z t3 11) (h : gf_Law_arbor F z u t0 x1 x2 t3 = some r0) (sz : Nat) : gw_Mw l gy_Law_arbor gb_Law_arbor 5 (some .int) [(0, 10, 13, 25), (0, 10, 17, 13), (0, 10, 21, 19)] (xt_rm 9 185) [.ref (hs t0), .int x1, .int x2, .ref (hs t3)] D cA hs z u sz r0 := by
  refine gw_enterW (by decide) (Nat.le_of_ble_eq_true rfl) ?_
  intro p e s m below meth c ls hsz C hW hr hk htb hZ hN hl
  subst hsz
  exact gx_Law_arbor_b0 F C hr hk (xt_rm_ok 9 185) hfl htb hZ hN u t0 x1 x2 t3 o_t0 o_t3 hW (lv_sub hl [0, 1, 2, 3] rfl) h
-- GearDeskLaw.planet(LGearDesk;III[J)I
theorem gk_906 : Cond.methodLink R_Law 48 gy_Desk_planet ∈ gt_T := gt_m4 (List.mem_of_getElem? (i := 232) rfl) rfl
theorem gk_907 : Cond.instanceMethod gy_Desk_planet ∈ gt_T := gt_m4 (List.mem_of_getElem? (i := 233) rfl) rfl
theorem gk_908 : Cond.selects R_Desk gy_Desk_planet gy_Desk_planet ∈ gt_T := gt_m4 (List.mem_of_getElem? (i := 234) rfl) rfl
def gy_Law_planet : MethodName := ⟨R_Law, "planet", "(LGearDesk;III[J)I"⟩
abbrev gb_Law_planet : ByteArray := method_12_code
theorem gk_909 : Cond.codeWith gy_Law_planet gb_Law_planet 6 (some .int) [(0, 12, 15, 25), (0, 12, 19, 13), (0, 12, 23, 19)] ∈ gt_T := gt_m4 (List.mem_of_getElem? (i := 231) rfl) rfl
theorem gm_Law_planet : gw_MthW gy_Law_planet gb_Law_planet 6 (some .int) [(0, 12, 15, 25), (0, 12, 19, 13), (0, 12, 23, 19)] 5 := ⟨gk_909, gk_870, ⟨by decide +kernel, by decide +kernel⟩, by decide +kernel⟩
theorem gd_Law_planet_0 : decode gb_Law_planet 0 = .ok (.aload 4, 2) := by decide +kernel
theorem gd_Law_planet_2 : decode gb_Law_planet 2 = .ok (.iconst 0, 1) := by decide +kernel
theorem gd_Law_planet_3 : decode gb_Law_planet 3 = .ok (.aload_n 0, 1) := by decide +kernel
theorem gd_Law_planet_4 : decode gb_Law_planet 4 = .ok (.iload_n 1, 1) := by decide +kernel
theorem gd_Law_planet_5 : decode gb_Law_planet 5 = .ok (.iload_n 2, 1) := by decide +kernel
theorem gd_Law_planet_6 : decode gb_Law_planet 6 = .ok (.iload_n 3, 1) := by decide +kernel
theorem gd_Law_planet_7 : decode gb_Law_planet 7 = .ok (.invokevirtual 48, 3) := by decide +kernel
theorem gd_Law_planet_10 : decode gb_Law_planet 10 = .ok (.i2l, 1) := by decide +kernel
theorem gd_Law_planet_11 : decode gb_Law_planet 11 = .ok (.lastore, 1) := by decide +kernel
theorem gd_Law_planet_12 : decode gb_Law_planet 12 = .ok (.goto 15, 3) := by decide +kernel
theorem gd_Law_planet_15 : decode gb_Law_planet 15 = .ok (.astore 5, 2) := by decide +kernel
theorem gd_Law_planet_17 : decode gb_Law_planet 17 = .ok (.iconst 1, 1) := by decide +kernel
theorem gd_Law_planet_18 : decode gb_Law_planet 18 = .ok (.ireturn, 1) := by decide +kernel
theorem gd_Law_planet_19 : decode gb_Law_planet 19 = .ok (.astore 5, 2) := by decide +kernel
theorem gd_Law_planet_21 : decode gb_Law_planet 21 = .ok (.iconst 2, 1) := by decide +kernel
theorem gd_Law_planet_22 : decode gb_Law_planet 22 = .ok (.ireturn, 1) := by decide +kernel
theorem gd_Law_planet_23 : decode gb_Law_planet 23 = .ok (.astore 5, 2) := by decide +kernel
theorem gd_Law_planet_25 : decode gb_Law_planet 25 = .ok (.iconst 3, 1) := by decide +kernel
theorem gd_Law_planet_26 : decode gb_Law_planet 26 = .ok (.ireturn, 1) := by decide +kernel
theorem gd_Law_planet_27 : decode gb_Law_planet 27 = .ok (.iconst 0, 1) := by decide +kernel
theorem gd_Law_planet_28 : decode gb_Law_planet 28 = .ok (.ireturn, 1) := by decide +kernel
def gf_Law_planet_b0 (F : Nat) (z : gw_Sh)  (u : gw_St) (t0 : Nat) (x1 : Int32) (x2 : Int32) (x3 : Int32) (t4 : Nat) : Option (Int32 × gw_St) :=
  gf_ch (gf_Desk_planet F z u t0 x1 x2 x3) (fun k w => if k = 3 then some (1, w) else if k = 1 then some (2, w) else if k = 2 then some (3, w) else none) fun a3 u1 => if ((0 : Int32) < 0 ∨ z.2.2 t4 ≤ ((0 : Int32)).toNatClampNeg) then none else gf_nm (gw_wl u1 t4 ((0 : Int32)).toNatClampNeg ((a3).toInt64)) fun u9 => some ((0 : Int32), u9)
def gf_Law_planet (F : Nat) (z : gw_Sh) (u : gw_St) (t0 : Nat) (x1 : Int32) (x2 : Int32) (x3 : Int32) (t4 : Nat) : Option (Int32 × gw_St) := gf_Law_planet_b0 F z  u t0 x1 x2 x3 t4
set_option maxHeartbeats 4000000 in
set_option maxRecDepth 20000 in
theorem gx_Law_planet_b0 {p : Program} {l : Launch} {e : Env} {s : State} {m : MethodId} {args : Array Value} {below : List Frame} {meth : Method} {c : Code} {D : va_G} {cA : Nat → ClassId} {hs : Nat → Nat} {z : gw_Sh} (F : Nat) {r0 : (Int32 × gw_St)} (C : gw_Cx p s m args c gb_Law_planet 6 R_Law D cA) (hr : meth.sig.returnType = (some .int)) (hk : meth.locks = false) {R : Room} (hR : 8 ≤ R.frames ∧ 164 ≤ R.locals ∧ 1 ≤ R.cells ∧ 6 ≤ R.slots) (hfl : l.flags = pinnedFlags ++ [noTraceFlag]) (htb : c.exceptionTable.toList = List.map xw_e [(0, 12, 15, 25), (0, 12, 19, 13), (0, 12, 23, 19)]) (hZ : xt_Zs (gw_A hs z s.heap.size) s s.heap) (hN : xt_Nn s) (u : gw_St) (t0 : Nat) (x1 : Int32) (x2 : Int32) (x3 : Int32) (t4 : Nat) (o_t0 : gw_ok z t0 0) (o_t4 : gw_ok z t4 11) {H : Heap} {locs : List Loc} {ls : Array Slot} (hW : gw_Wx D cA hs z s u H locs) (hl : lv_has ls 6 [(0, .ref (hs t0)), (1, .int x1), (2, .int x2), (3, .int x3), (4, .ref (hs t4))]) (h : gf_Law_planet_b0 F z   u t0 x1 x2 x3 t4 = some r0) : gw_Gw p l e R s m args below meth c D cA hs z r0 H locs ls 0 [] := by
  obtain ⟨hx, hb, hml, hown, hts, hK⟩ := id C
  unfold gf_Law_planet_b0 at h
  refine lv_aload hx hb gd_Law_planet_0 (lv_at hl 4 rfl) ?_
  refine lv_iconst (v := 0) hx hb gd_Law_planet_2 (by decide) ?_
  refine lv_aload_n hx hb gd_Law_planet_3 rfl (lv_at hl 0 rfl) ?_
  refine lv_iload_n hx hb gd_Law_planet_4 rfl (lv_at hl 1 rfl) ?_
  refine lv_iload_n hx hb gd_Law_planet_5 rfl (lv_at hl 2 rfl) ?_
  refine lv_iload_n hx hb gd_Law_planet_6 rfl (lv_at hl 3 rfl) ?_
  rcases gf_ch_ok h with ⟨k4, u1, d2, h⟩ | ⟨a3, u1, d2, h⟩
  · by_cases c5 : k4 = 3
    · subst c5
      have h := gf_t rfl h
      obtain rfl := Option.some.inj h
      refine xt_catch (K := R_Desk) (As := [.int x1, .int x2, .int x3]) (rest := [.int (0 : Int32), .ref (hs t4)]) C hW (fun _ h => Or.inr h) hZ hl.1 gm_Desk_planet (gt_Desk_planet l hfl F o_t0 d2 _) gk_906 gk_907 gk_908 o_t0 (by decide) rfl rfl rfl ⟨(Nat.le_trans (m := 8) (Nat.le_of_ble_eq_true rfl) hR.1), (Nat.le_trans (m := 164) (Nat.le_of_ble_eq_true rfl) hR.2.1)⟩ ⟨hR.2.2.1, hR.2.2.2⟩ rfl rfl (Nat.le_of_ble_eq_true rfl) gd_Law_planet_7 (w := xw_e (0, 12, 15, 25)) (pre := []) (more := [xw_e (0, 12, 19, 13), xw_e (0, 12, 23, 19)]) htb xw_n (by decide) (by decide) gk_880 (fun x H locs hW => ?_)
      refine W.widen (k := 1) (n := 6) (by decide) (by decide) ?_
      refine lv_astore (lv' := [(5, .ref x)]) hx hb gd_Law_planet_15 (lv_sub hl [] rfl) (by decide) rfl (fun ls hl => ?_)
      refine lv_iconst (v := 1) hx hb gd_Law_planet_17 (by decide) ?_
      exact gw_iretW C hW hr hk gd_Law_planet_18
    have h := gf_f c5 h
    by_cases c6 : k4 = 1
    · subst c6
      have h := gf_t rfl h
      obtain rfl := Option.some.inj h
      refine xt_catch (K := R_Desk) (As := [.int x1, .int x2, .int x3]) (rest := [.int (0 : Int32), .ref (hs t4)]) C hW (fun _ h => Or.inr h) hZ hl.1 gm_Desk_planet (gt_Desk_planet l hfl F o_t0 d2 _) gk_906 gk_907 gk_908 o_t0 (by decide) rfl rfl rfl ⟨(Nat.le_trans (m := 8) (Nat.le_of_ble_eq_true rfl) hR.1), (Nat.le_trans (m := 164) (Nat.le_of_ble_eq_true rfl) hR.2.1)⟩ ⟨hR.2.2.1, hR.2.2.2⟩ rfl rfl (Nat.le_of_ble_eq_true rfl) gd_Law_planet_7 (w := xw_e (0, 12, 19, 13)) (pre := [(xw_e (0, 12, 15, 25), xt_nm 3)]) (more := [xw_e (0, 12, 23, 19)]) htb (xw_c ⟨by decide, by decide, gk_880, hN 1 (by decide) 3 (by decide) (by decide)⟩ xw_n) (by decide) (by decide) gk_869 (fun x H locs hW => ?_)
      refine W.widen (k := 1) (n := 6) (by decide) (by decide) ?_
      refine lv_astore (lv' := [(5, .ref x)]) hx hb gd_Law_planet_19 (lv_sub hl [] rfl) (by decide) rfl (fun ls hl => ?_)
      refine lv_iconst (v := 2) hx hb gd_Law_planet_21 (by decide) ?_
      exact gw_iretW C hW hr hk gd_Law_planet_22
    have h := gf_f c6 h
    by_cases c7 : k4 = 2
    · subst c7
      have h := gf_t rfl h
      obtain rfl := Option.some.inj h
      refine xt_catch (K := R_Desk) (As := [.int x1, .int x2, .int x3]) (rest := [.int (0 : Int32), .ref (hs t4)]) C hW (fun _ h => Or.inr h) hZ hl.1 gm_Desk_planet (gt_Desk_planet l hfl F o_t0 d2 _) gk_906 gk_907 gk_908 o_t0 (by decide) rfl rfl rfl ⟨(Nat.le_trans (m := 8) (Nat.le_of_ble_eq_true rfl) hR.1), (Nat.le_trans (m := 164) (Nat.le_of_ble_eq_true rfl) hR.2.1)⟩ ⟨hR.2.2.1, hR.2.2.2⟩ rfl rfl (Nat.le_of_ble_eq_true rfl) gd_Law_planet_7 (w := xw_e (0, 12, 23, 19)) (pre := [(xw_e (0, 12, 15, 25), xt_nm 3), (xw_e (0, 12, 19, 13), xt_nm 1)]) (more := []) htb (xw_c ⟨by decide, by decide, gk_880, hN 2 (by decide) 3 (by decide) (by decide)⟩ (xw_c ⟨by decide, by decide, gk_869, hN 2 (by decide) 1 (by decide) (by decide)⟩ xw_n)) (by decide) (by decide) gk_875 (fun x H locs hW => ?_)
      refine W.widen (k := 1) (n := 6) (by decide) (by decide) ?_
      refine lv_astore (lv' := [(5, .ref x)]) hx hb gd_Law_planet_23 (lv_sub hl [] rfl) (by decide) rfl (fun ls hl => ?_)
      refine lv_iconst (v := 3) hx hb gd_Law_planet_25 (by decide) ?_
      exact gw_iretW C hW hr hk gd_Law_planet_26
    have h := gf_f c7 h
    cases h
  refine gw_callVi (K := R_Desk) (As := [.int x1, .int x2, .int x3]) (rest := [.int (0 : Int32), .ref (hs t4)]) C hW (fun _ h => Or.inr h) hl.1 gm_Desk_planet (gc_Desk_planet l hfl F o_t0 d2 _) gk_906 gk_907 gk_908 o_t0 (by decide) rfl rfl rfl ⟨(Nat.le_trans (m := 8) (Nat.le_of_ble_eq_true rfl) hR.1), (Nat.le_trans (m := 164) (Nat.le_of_ble_eq_true rfl) hR.2.1)⟩ ⟨Nat.zero_le _, Nat.zero_le _⟩ rfl rfl (Nat.le_of_ble_eq_true rfl) gd_Law_planet_7 (fun H locs hW => ?_)
  refine lv_i2l hx hb gd_Law_planet_10 rfl ?_
  obtain ⟨g8, h⟩ := gf_if_ok h
  refine gw_last C hW o_t4 g8 gd_Law_planet_11 (fun u9 H locs e10 hW => ?_)
  have h := gf_nm_ok e10 h
  refine lv_goto (tgt := 27) hx hb gd_Law_planet_12 (by decide) ?_
  refine lv_iconst (v := 0) hx hb gd_Law_planet_27 (by decide) ?_
  obtain rfl := Option.some.inj h
  refine W.widen (k := 1) (n := 6) (by decide) (by decide) ?_
  exact gw_iretW C hW hr hk gd_Law_planet_28

set_option maxRecDepth 20000 in
theorem gc_Law_planet (l : Launch) (hfl : l.flags = pinnedFlags ++ [noTraceFlag]) {D : va_G} {cA : Nat → ClassId} {hs : Nat → Nat} {z : gw_Sh} (F : Nat) {u : gw_St} {r0 : Int32 × gw_St} {t0 : Nat} {x1 : Int32} {x2 : Int32} {x3 : Int32} {t4 : Nat} (o_t0 : gw_ok z t0 0) (o_t4 : gw_ok z t4 11) (h : gf_Law_planet F z u t0 x1 x2 x3 t4 = some r0) (sz : Nat) : gw_Mw l gy_Law_planet gb_Law_planet 6 (some .int) [(0, 12, 15, 25), (0, 12, 19, 13), (0, 12, 23, 19)] (xt_rm 8 164) [.ref (hs t0), .int x1, .int x2, .int x3, .ref (hs t4)] D cA hs z u sz r0 := by
  refine gw_enterW (by decide) (Nat.le_of_ble_eq_true rfl) ?_
  intro p e s m below meth c ls hsz C hW hr hk htb hZ hN hl
  subst hsz
  exact gx_Law_planet_b0 F C hr hk (xt_rm_ok 8 164) hfl htb hZ hN u t0 x1 x2 x3 t4 o_t0 o_t4 hW (lv_sub hl [0, 1, 2, 3, 4] rfl) h
-- GearDeskLaw.remove(LGearDesk;I[J)I
theorem gk_910 : Cond.methodLink R_Law 51 gy_Desk_remove ∈ gt_T := gt_m4 (List.mem_of_getElem? (i := 239) rfl) rfl
theorem gk_911 : Cond.instanceMethod gy_Desk_remove ∈ gt_T := gt_m5 (List.mem_of_getElem? (i := 0) rfl) rfl
theorem gk_912 : Cond.selects R_Desk gy_Desk_remove gy_Desk_remove ∈ gt_T := gt_m5 (List.mem_of_getElem? (i := 1) rfl) rfl
def gy_Law_remove : MethodName := ⟨R_Law, "remove", "(LGearDesk;I[J)I"⟩
abbrev gb_Law_remove : ByteArray := method_13_code
theorem gk_913 : Cond.codeWith gy_Law_remove gb_Law_remove 4 (some .int) [(0, 9, 12, 25)] ∈ gt_T := gt_m4 (List.mem_of_getElem? (i := 238) rfl) rfl
theorem gm_Law_remove : gw_MthW gy_Law_remove gb_Law_remove 4 (some .int) [(0, 9, 12, 25)] 3 := ⟨gk_913, gk_870, ⟨by decide +kernel, by decide +kernel⟩, by decide +kernel⟩
theorem gd_Law_remove_0 : decode gb_Law_remove 0 = .ok (.aload_n 2, 1) := by decide +kernel
theorem gd_Law_remove_1 : decode gb_Law_remove 1 = .ok (.iconst 0, 1) := by decide +kernel
theorem gd_Law_remove_2 : decode gb_Law_remove 2 = .ok (.aload_n 0, 1) := by decide +kernel
theorem gd_Law_remove_3 : decode gb_Law_remove 3 = .ok (.iload_n 1, 1) := by decide +kernel
theorem gd_Law_remove_4 : decode gb_Law_remove 4 = .ok (.invokevirtual 51, 3) := by decide +kernel
theorem gd_Law_remove_7 : decode gb_Law_remove 7 = .ok (.i2l, 1) := by decide +kernel
theorem gd_Law_remove_8 : decode gb_Law_remove 8 = .ok (.lastore, 1) := by decide +kernel
theorem gd_Law_remove_9 : decode gb_Law_remove 9 = .ok (.goto 6, 3) := by decide +kernel
theorem gd_Law_remove_12 : decode gb_Law_remove 12 = .ok (.astore_n 3, 1) := by decide +kernel
theorem gd_Law_remove_13 : decode gb_Law_remove 13 = .ok (.iconst 1, 1) := by decide +kernel
theorem gd_Law_remove_14 : decode gb_Law_remove 14 = .ok (.ireturn, 1) := by decide +kernel
theorem gd_Law_remove_15 : decode gb_Law_remove 15 = .ok (.iconst 0, 1) := by decide +kernel
theorem gd_Law_remove_16 : decode gb_Law_remove 16 = .ok (.ireturn, 1) := by decide +kernel
def gf_Law_remove_b0 (F : Nat) (z : gw_Sh)  (u : gw_St) (t0 : Nat) (x1 : Int32) (t2 : Nat) : Option (Int32 × gw_St) :=
  gf_ch (gf_Desk_remove F z u t0 x1) (fun k w => if k = 3 then some (1, w) else none) fun a3 u1 => if ((0 : Int32) < 0 ∨ z.2.2 t2 ≤ ((0 : Int32)).toNatClampNeg) then none else gf_nm (gw_wl u1 t2 ((0 : Int32)).toNatClampNeg ((a3).toInt64)) fun u7 => some ((0 : Int32), u7)
def gf_Law_remove (F : Nat) (z : gw_Sh) (u : gw_St) (t0 : Nat) (x1 : Int32) (t2 : Nat) : Option (Int32 × gw_St) := gf_Law_remove_b0 F z  u t0 x1 t2
set_option maxHeartbeats 4000000 in
set_option maxRecDepth 20000 in
theorem gx_Law_remove_b0 {p : Program} {l : Launch} {e : Env} {s : State} {m : MethodId} {args : Array Value} {below : List Frame} {meth : Method} {c : Code} {D : va_G} {cA : Nat → ClassId} {hs : Nat → Nat} {z : gw_Sh} (F : Nat) {r0 : (Int32 × gw_St)} (C : gw_Cx p s m args c gb_Law_remove 4 R_Law D cA) (hr : meth.sig.returnType = (some .int)) (hk : meth.locks = false) {R : Room} (hR : 8 ≤ R.frames ∧ 162 ≤ R.locals ∧ 1 ≤ R.cells ∧ 6 ≤ R.slots) (hfl : l.flags = pinnedFlags ++ [noTraceFlag]) (htb : c.exceptionTable.toList = List.map xw_e [(0, 9, 12, 25)]) (hZ : xt_Zs (gw_A hs z s.heap.size) s s.heap) (hN : xt_Nn s) (u : gw_St) (t0 : Nat) (x1 : Int32) (t2 : Nat) (o_t0 : gw_ok z t0 0) (o_t2 : gw_ok z t2 11) {H : Heap} {locs : List Loc} {ls : Array Slot} (hW : gw_Wx D cA hs z s u H locs) (hl : lv_has ls 4 [(0, .ref (hs t0)), (1, .int x1), (2, .ref (hs t2))]) (h : gf_Law_remove_b0 F z   u t0 x1 t2 = some r0) : gw_Gw p l e R s m args below meth c D cA hs z r0 H locs ls 0 [] := by
  obtain ⟨hx, hb, hml, hown, hts, hK⟩ := id C
  unfold gf_Law_remove_b0 at h
  refine lv_aload_n hx hb gd_Law_remove_0 rfl (lv_at hl 2 rfl) ?_
  refine lv_iconst (v := 0) hx hb gd_Law_remove_1 (by decide) ?_
  refine lv_aload_n hx hb gd_Law_remove_2 rfl (lv_at hl 0 rfl) ?_
  refine lv_iload_n hx hb gd_Law_remove_3 rfl (lv_at hl 1 rfl) ?_
  rcases gf_ch_ok h with ⟨k4, u1, d2, h⟩ | ⟨a3, u1, d2, h⟩
  · by_cases c5 : k4 = 3
    · subst c5
      have h := gf_t rfl h
      obtain rfl := Option.some.inj h
      refine xt_catch (K := R_Desk) (As := [.int x1]) (rest := [.int (0 : Int32), .ref (hs t2)]) C hW (fun _ h => Or.inr h) hZ hl.1 gm_Desk_remove (gt_Desk_remove l hfl F o_t0 d2 _) gk_910 gk_911 gk_912 o_t0 (by decide) rfl rfl rfl ⟨(Nat.le_trans (m := 8) (Nat.le_of_ble_eq_true rfl) hR.1), (Nat.le_trans (m := 162) (Nat.le_of_ble_eq_true rfl) hR.2.1)⟩ ⟨hR.2.2.1, hR.2.2.2⟩ rfl rfl (Nat.le_of_ble_eq_true rfl) gd_Law_remove_4 (w := xw_e (0, 9, 12, 25)) (pre := []) (more := []) htb xw_n (by decide) (by decide) gk_880 (fun x H locs hW => ?_)
      refine W.widen (k := 1) (n := 6) (by decide) (by decide) ?_
      refine lv_astore_n (lv' := [(3, .ref x)]) hx hb gd_Law_remove_12 rfl (lv_sub hl [] rfl) (by decide) rfl (fun ls hl => ?_)
      refine lv_iconst (v := 1) hx hb gd_Law_remove_13 (by decide) ?_
      exact gw_iretW C hW hr hk gd_Law_remove_14
    have h := gf_f c5 h
    cases h
  refine gw_callVi (K := R_Desk) (As := [.int x1]) (rest := [.int (0 : Int32), .ref (hs t2)]) C hW (fun _ h => Or.inr h) hl.1 gm_Desk_remove (gc_Desk_remove l hfl F o_t0 d2 _) gk_910 gk_911 gk_912 o_t0 (by decide) rfl rfl rfl ⟨(Nat.le_trans (m := 8) (Nat.le_of_ble_eq_true rfl) hR.1), (Nat.le_trans (m := 162) (Nat.le_of_ble_eq_true rfl) hR.2.1)⟩ ⟨Nat.zero_le _, Nat.zero_le _⟩ rfl rfl (Nat.le_of_ble_eq_true rfl) gd_Law_remove_4 (fun H locs hW => ?_)
  refine lv_i2l hx hb gd_Law_remove_7 rfl ?_
  obtain ⟨g6, h⟩ := gf_if_ok h
  refine gw_last C hW o_t2 g6 gd_Law_remove_8 (fun u7 H locs e8 hW => ?_)
  have h := gf_nm_ok e8 h
  refine lv_goto (tgt := 15) hx hb gd_Law_remove_9 (by decide) ?_
  refine lv_iconst (v := 0) hx hb gd_Law_remove_15 (by decide) ?_
  obtain rfl := Option.some.inj h
  refine W.widen (k := 1) (n := 6) (by decide) (by decide) ?_
  exact gw_iretW C hW hr hk gd_Law_remove_16

set_option maxRecDepth 20000 in
theorem gc_Law_remove (l : Launch) (hfl : l.flags = pinnedFlags ++ [noTraceFlag]) {D : va_G} {cA : Nat → ClassId} {hs : Nat → Nat} {z : gw_Sh} (F : Nat) {u : gw_St} {r0 : Int32 × gw_St} {t0 : Nat} {x1 : Int32} {t2 : Nat} (o_t0 : gw_ok z t0 0) (o_t2 : gw_ok z t2 11) (h : gf_Law_remove F z u t0 x1 t2 = some r0) (sz : Nat) : gw_Mw l gy_Law_remove gb_Law_remove 4 (some .int) [(0, 9, 12, 25)] (xt_rm 8 162) [.ref (hs t0), .int x1, .ref (hs t2)] D cA hs z u sz r0 := by
  refine gw_enterW (by decide) (Nat.le_of_ble_eq_true rfl) ?_
  intro p e s m below meth c ls hsz C hW hr hk htb hZ hN hl
  subst hsz
  exact gx_Law_remove_b0 F C hr hk (xt_rm_ok 8 162) hfl htb hZ hN u t0 x1 t2 o_t0 o_t2 hW (lv_sub hl [0, 1, 2] rfl) h
-- GearDeskLaw.relation(LGearDesk;II[J)I
theorem gk_914 : Cond.methodLink R_Law 54 gy_Desk_relation ∈ gt_T := gt_m5 (List.mem_of_getElem? (i := 15) rfl) rfl
theorem gk_915 : Cond.instanceMethod gy_Desk_relation ∈ gt_T := gt_m5 (List.mem_of_getElem? (i := 16) rfl) rfl
theorem gk_916 : Cond.selects R_Desk gy_Desk_relation gy_Desk_relation ∈ gt_T := gt_m5 (List.mem_of_getElem? (i := 17) rfl) rfl
def gy_Law_relation : MethodName := ⟨R_Law, "relation", "(LGearDesk;II[J)I"⟩
abbrev gb_Law_relation : ByteArray := method_14_code
theorem gk_917 : Cond.codeWith gy_Law_relation gb_Law_relation 5 (some .int) [(0, 10, 13, 25)] ∈ gt_T := gt_m5 (List.mem_of_getElem? (i := 14) rfl) rfl
theorem gm_Law_relation : gw_MthW gy_Law_relation gb_Law_relation 5 (some .int) [(0, 10, 13, 25)] 4 := ⟨gk_917, gk_870, ⟨by decide +kernel, by decide +kernel⟩, by decide +kernel⟩
theorem gd_Law_relation_0 : decode gb_Law_relation 0 = .ok (.aload_n 3, 1) := by decide +kernel
theorem gd_Law_relation_1 : decode gb_Law_relation 1 = .ok (.iconst 0, 1) := by decide +kernel
theorem gd_Law_relation_2 : decode gb_Law_relation 2 = .ok (.aload_n 0, 1) := by decide +kernel
theorem gd_Law_relation_3 : decode gb_Law_relation 3 = .ok (.iload_n 1, 1) := by decide +kernel
theorem gd_Law_relation_4 : decode gb_Law_relation 4 = .ok (.iload_n 2, 1) := by decide +kernel
theorem gd_Law_relation_5 : decode gb_Law_relation 5 = .ok (.invokevirtual 54, 3) := by decide +kernel
theorem gd_Law_relation_8 : decode gb_Law_relation 8 = .ok (.i2l, 1) := by decide +kernel
theorem gd_Law_relation_9 : decode gb_Law_relation 9 = .ok (.lastore, 1) := by decide +kernel
theorem gd_Law_relation_10 : decode gb_Law_relation 10 = .ok (.goto 7, 3) := by decide +kernel
theorem gd_Law_relation_13 : decode gb_Law_relation 13 = .ok (.astore 4, 2) := by decide +kernel
theorem gd_Law_relation_15 : decode gb_Law_relation 15 = .ok (.iconst 1, 1) := by decide +kernel
theorem gd_Law_relation_16 : decode gb_Law_relation 16 = .ok (.ireturn, 1) := by decide +kernel
theorem gd_Law_relation_17 : decode gb_Law_relation 17 = .ok (.iconst 0, 1) := by decide +kernel
theorem gd_Law_relation_18 : decode gb_Law_relation 18 = .ok (.ireturn, 1) := by decide +kernel
def gf_Law_relation_b0 (F : Nat) (z : gw_Sh)  (u : gw_St) (t0 : Nat) (x1 : Int32) (x2 : Int32) (t3 : Nat) : Option (Int32 × gw_St) :=
  gf_ch (gf_Desk_relation F z u t0 x1 x2) (fun k w => if k = 3 then some (1, w) else none) fun a3 u1 => if ((0 : Int32) < 0 ∨ z.2.2 t3 ≤ ((0 : Int32)).toNatClampNeg) then none else gf_nm (gw_wl u1 t3 ((0 : Int32)).toNatClampNeg ((a3).toInt64)) fun u7 => some ((0 : Int32), u7)
def gf_Law_relation (F : Nat) (z : gw_Sh) (u : gw_St) (t0 : Nat) (x1 : Int32) (x2 : Int32) (t3 : Nat) : Option (Int32 × gw_St) := gf_Law_relation_b0 F z  u t0 x1 x2 t3
set_option maxHeartbeats 4000000 in
set_option maxRecDepth 20000 in
theorem gx_Law_relation_b0 {p : Program} {l : Launch} {e : Env} {s : State} {m : MethodId} {args : Array Value} {below : List Frame} {meth : Method} {c : Code} {D : va_G} {cA : Nat → ClassId} {hs : Nat → Nat} {z : gw_Sh} (F : Nat) {r0 : (Int32 × gw_St)} (C : gw_Cx p s m args c gb_Law_relation 5 R_Law D cA) (hr : meth.sig.returnType = (some .int)) (hk : meth.locks = false) {R : Room} (hR : 8 ≤ R.frames ∧ 163 ≤ R.locals ∧ 1 ≤ R.cells ∧ 6 ≤ R.slots) (hfl : l.flags = pinnedFlags ++ [noTraceFlag]) (htb : c.exceptionTable.toList = List.map xw_e [(0, 10, 13, 25)]) (hZ : xt_Zs (gw_A hs z s.heap.size) s s.heap) (hN : xt_Nn s) (u : gw_St) (t0 : Nat) (x1 : Int32) (x2 : Int32) (t3 : Nat) (o_t0 : gw_ok z t0 0) (o_t3 : gw_ok z t3 11) {H : Heap} {locs : List Loc} {ls : Array Slot} (hW : gw_Wx D cA hs z s u H locs) (hl : lv_has ls 5 [(0, .ref (hs t0)), (1, .int x1), (2, .int x2), (3, .ref (hs t3))]) (h : gf_Law_relation_b0 F z   u t0 x1 x2 t3 = some r0) : gw_Gw p l e R s m args below meth c D cA hs z r0 H locs ls 0 [] := by
  obtain ⟨hx, hb, hml, hown, hts, hK⟩ := id C
  unfold gf_Law_relation_b0 at h
  refine lv_aload_n hx hb gd_Law_relation_0 rfl (lv_at hl 3 rfl) ?_
  refine lv_iconst (v := 0) hx hb gd_Law_relation_1 (by decide) ?_
  refine lv_aload_n hx hb gd_Law_relation_2 rfl (lv_at hl 0 rfl) ?_
  refine lv_iload_n hx hb gd_Law_relation_3 rfl (lv_at hl 1 rfl) ?_
  refine lv_iload_n hx hb gd_Law_relation_4 rfl (lv_at hl 2 rfl) ?_
  rcases gf_ch_ok h with ⟨k4, u1, d2, h⟩ | ⟨a3, u1, d2, h⟩
  · by_cases c5 : k4 = 3
    · subst c5
      have h := gf_t rfl h
      obtain rfl := Option.some.inj h
      refine xt_catch (K := R_Desk) (As := [.int x1, .int x2]) (rest := [.int (0 : Int32), .ref (hs t3)]) C hW (fun _ h => Or.inr h) hZ hl.1 gm_Desk_relation (gt_Desk_relation l hfl F o_t0 d2 _) gk_914 gk_915 gk_916 o_t0 (by decide) rfl rfl rfl ⟨(Nat.le_trans (m := 8) (Nat.le_of_ble_eq_true rfl) hR.1), (Nat.le_trans (m := 163) (Nat.le_of_ble_eq_true rfl) hR.2.1)⟩ ⟨hR.2.2.1, hR.2.2.2⟩ rfl rfl (Nat.le_of_ble_eq_true rfl) gd_Law_relation_5 (w := xw_e (0, 10, 13, 25)) (pre := []) (more := []) htb xw_n (by decide) (by decide) gk_880 (fun x H locs hW => ?_)
      refine W.widen (k := 1) (n := 6) (by decide) (by decide) ?_
      refine lv_astore (lv' := [(4, .ref x)]) hx hb gd_Law_relation_13 (lv_sub hl [] rfl) (by decide) rfl (fun ls hl => ?_)
      refine lv_iconst (v := 1) hx hb gd_Law_relation_15 (by decide) ?_
      exact gw_iretW C hW hr hk gd_Law_relation_16
    have h := gf_f c5 h
    cases h
  refine gw_callVi (K := R_Desk) (As := [.int x1, .int x2]) (rest := [.int (0 : Int32), .ref (hs t3)]) C hW (fun _ h => Or.inr h) hl.1 gm_Desk_relation (gc_Desk_relation l hfl F o_t0 d2 _) gk_914 gk_915 gk_916 o_t0 (by decide) rfl rfl rfl ⟨(Nat.le_trans (m := 8) (Nat.le_of_ble_eq_true rfl) hR.1), (Nat.le_trans (m := 163) (Nat.le_of_ble_eq_true rfl) hR.2.1)⟩ ⟨Nat.zero_le _, Nat.zero_le _⟩ rfl rfl (Nat.le_of_ble_eq_true rfl) gd_Law_relation_5 (fun H locs hW => ?_)
  refine lv_i2l hx hb gd_Law_relation_8 rfl ?_
  obtain ⟨g6, h⟩ := gf_if_ok h
  refine gw_last C hW o_t3 g6 gd_Law_relation_9 (fun u7 H locs e8 hW => ?_)
  have h := gf_nm_ok e8 h
  refine lv_goto (tgt := 17) hx hb gd_Law_relation_10 (by decide) ?_
  refine lv_iconst (v := 0) hx hb gd_Law_relation_17 (by decide) ?_
  obtain rfl := Option.some.inj h
  refine W.widen (k := 1) (n := 6) (by decide) (by decide) ?_
  exact gw_iretW C hW hr hk gd_Law_relation_18

set_option maxRecDepth 20000 in
theorem gc_Law_relation (l : Launch) (hfl : l.flags = pinnedFlags ++ [noTraceFlag]) {D : va_G} {cA : Nat → ClassId} {hs : Nat → Nat} {z : gw_Sh} (F : Nat) {u : gw_St} {r0 : Int32 × gw_St} {t0 : Nat} {x1 : Int32} {x2 : Int32} {t3 : Nat} (o_t0 : gw_ok z t0 0) (o_t3 : gw_ok z t3 11) (h : gf_Law_relation F z u t0 x1 x2 t3 = some r0) (sz : Nat) : gw_Mw l gy_Law_relation gb_Law_relation 5 (some .int) [(0, 10, 13, 25)] (xt_rm 8 163) [.ref (hs t0), .int x1, .int x2, .ref (hs t3)] D cA hs z u sz r0 := by
  refine gw_enterW (by decide) (Nat.le_of_ble_eq_true rfl) ?_
  intro p e s m below meth c ls hsz C hW hr hk htb hZ hN hl
  subst hsz
  exact gx_Law_relation_b0 F C hr hk (xt_rm_ok 8 163) hfl htb hZ hN u t0 x1 x2 t3 o_t0 o_t3 hW (lv_sub hl [0, 1, 2, 3] rfl) h
-- GearDeskLaw.crank(LGearDesk;I[J)I
theorem gk_918 : Cond.methodLink R_Law 57 gy_Desk_crank ∈ gt_T := gt_m5 (List.mem_of_getElem? (i := 26) rfl) rfl
theorem gk_919 : Cond.instanceMethod gy_Desk_crank ∈ gt_T := gt_m5 (List.mem_of_getElem? (i := 27) rfl) rfl
theorem gk_920 : Cond.selects R_Desk gy_Desk_crank gy_Desk_crank ∈ gt_T := gt_m5 (List.mem_of_getElem? (i := 28) rfl) rfl
def gy_Law_crank : MethodName := ⟨R_Law, "crank", "(LGearDesk;I[J)I"⟩
abbrev gb_Law_crank : ByteArray := method_15_code
theorem gk_921 : Cond.codeWith gy_Law_crank gb_Law_crank 4 (some .int) [(0, 9, 12, 25)] ∈ gt_T := gt_m5 (List.mem_of_getElem? (i := 25) rfl) rfl
theorem gm_Law_crank : gw_MthW gy_Law_crank gb_Law_crank 4 (some .int) [(0, 9, 12, 25)] 3 := ⟨gk_921, gk_870, ⟨by decide +kernel, by decide +kernel⟩, by decide +kernel⟩
theorem gd_Law_crank_0 : decode gb_Law_crank 0 = .ok (.aload_n 2, 1) := by decide +kernel
theorem gd_Law_crank_1 : decode gb_Law_crank 1 = .ok (.iconst 0, 1) := by decide +kernel
theorem gd_Law_crank_2 : decode gb_Law_crank 2 = .ok (.aload_n 0, 1) := by decide +kernel
theorem gd_Law_crank_3 : decode gb_Law_crank 3 = .ok (.iload_n 1, 1) := by decide +kernel
theorem gd_Law_crank_4 : decode gb_Law_crank 4 = .ok (.invokevirtual 57, 3) := by decide +kernel
theorem gd_Law_crank_7 : decode gb_Law_crank 7 = .ok (.i2l, 1) := by decide +kernel
theorem gd_Law_crank_8 : decode gb_Law_crank 8 = .ok (.lastore, 1) := by decide +kernel
theorem gd_Law_crank_9 : decode gb_Law_crank 9 = .ok (.goto 6, 3) := by decide +kernel
theorem gd_Law_crank_12 : decode gb_Law_crank 12 = .ok (.astore_n 3, 1) := by decide +kernel
theorem gd_Law_crank_13 : decode gb_Law_crank 13 = .ok (.iconst 1, 1) := by decide +kernel
theorem gd_Law_crank_14 : decode gb_Law_crank 14 = .ok (.ireturn, 1) := by decide +kernel
theorem gd_Law_crank_15 : decode gb_Law_crank 15 = .ok (.iconst 0, 1) := by decide +kernel
theorem gd_Law_crank_16 : decode gb_Law_crank 16 = .ok (.ireturn, 1) := by decide +kernel
def gf_Law_crank_b0 (F : Nat) (z : gw_Sh)  (u : gw_St) (t0 : Nat) (x1 : Int32) (t2 : Nat) : Option (Int32 × gw_St) :=
  gf_ch (gf_Desk_crank F z u t0 x1) (fun k w => if k = 3 then some (1, w) else none) fun a3 u1 => if ((0 : Int32) < 0 ∨ z.2.2 t2 ≤ ((0 : Int32)).toNatClampNeg) then none else gf_nm (gw_wl u1 t2 ((0 : Int32)).toNatClampNeg ((a3).toInt64)) fun u7 => some ((0 : Int32), u7)
def gf_Law_crank (F : Nat) (z : gw_Sh) (u : gw_St) (t0 : Nat) (x1 : Int32) (t2 : Nat) : Option (Int32 × gw_St) := gf_Law_crank_b0 F z  u t0 x1 t2
set_option maxHeartbeats 4000000 in
set_option maxRecDepth 20000 in
theorem gx_Law_crank_b0 {p : Program} {l : Launch} {e : Env} {s : State} {m : MethodId} {args : Array Value} {below : List Frame} {meth : Method} {c : Code} {D : va_G} {cA : Nat → ClassId} {hs : Nat → Nat} {z : gw_Sh} (F : Nat) {r0 : (Int32 × gw_St)} (C : gw_Cx p s m args c gb_Law_crank 4 R_Law D cA) (hr : meth.sig.returnType = (some .int)) (hk : meth.locks = false) {R : Room} (hR : 8 ≤ R.frames ∧ 163 ≤ R.locals ∧ 1 ≤ R.cells ∧ 6 ≤ R.slots) (hfl : l.flags = pinnedFlags ++ [noTraceFlag]) (htb : c.exceptionTable.toList = List.map xw_e [(0, 9, 12, 25)]) (hZ : xt_Zs (gw_A hs z s.heap.size) s s.heap) (hN : xt_Nn s) (u : gw_St) (t0 : Nat) (x1 : Int32) (t2 : Nat) (o_t0 : gw_ok z t0 0) (o_t2 : gw_ok z t2 11) {H : Heap} {locs : List Loc} {ls : Array Slot} (hW : gw_Wx D cA hs z s u H locs) (hl : lv_has ls 4 [(0, .ref (hs t0)), (1, .int x1), (2, .ref (hs t2))]) (h : gf_Law_crank_b0 F z   u t0 x1 t2 = some r0) : gw_Gw p l e R s m args below meth c D cA hs z r0 H locs ls 0 [] := by
  obtain ⟨hx, hb, hml, hown, hts, hK⟩ := id C
  unfold gf_Law_crank_b0 at h
  refine lv_aload_n hx hb gd_Law_crank_0 rfl (lv_at hl 2 rfl) ?_
  refine lv_iconst (v := 0) hx hb gd_Law_crank_1 (by decide) ?_
  refine lv_aload_n hx hb gd_Law_crank_2 rfl (lv_at hl 0 rfl) ?_
  refine lv_iload_n hx hb gd_Law_crank_3 rfl (lv_at hl 1 rfl) ?_
  rcases gf_ch_ok h with ⟨k4, u1, d2, h⟩ | ⟨a3, u1, d2, h⟩
  · by_cases c5 : k4 = 3
    · subst c5
      have h := gf_t rfl h
      obtain rfl := Option.some.inj h
      refine xt_catch (K := R_Desk) (As := [.int x1]) (rest := [.int (0 : Int32), .ref (hs t2)]) C hW (fun _ h => Or.inr h) hZ hl.1 gm_Desk_crank (gt_Desk_crank l hfl F o_t0 d2 _) gk_918 gk_919 gk_920 o_t0 (by decide) rfl rfl rfl ⟨(Nat.le_trans (m := 8) (Nat.le_of_ble_eq_true rfl) hR.1), (Nat.le_trans (m := 163) (Nat.le_of_ble_eq_true rfl) hR.2.1)⟩ ⟨hR.2.2.1, hR.2.2.2⟩ rfl rfl (Nat.le_of_ble_eq_true rfl) gd_Law_crank_4 (w := xw_e (0, 9, 12, 25)) (pre := []) (more := []) htb xw_n (by decide) (by decide) gk_880 (fun x H locs hW => ?_)
      refine W.widen (k := 1) (n := 6) (by decide) (by decide) ?_
      refine lv_astore_n (lv' := [(3, .ref x)]) hx hb gd_Law_crank_12 rfl (lv_sub hl [] rfl) (by decide) rfl (fun ls hl => ?_)
      refine lv_iconst (v := 1) hx hb gd_Law_crank_13 (by decide) ?_
      exact gw_iretW C hW hr hk gd_Law_crank_14
    have h := gf_f c5 h
    cases h
  refine gw_callVi (K := R_Desk) (As := [.int x1]) (rest := [.int (0 : Int32), .ref (hs t2)]) C hW (fun _ h => Or.inr h) hl.1 gm_Desk_crank (gc_Desk_crank l hfl F o_t0 d2 _) gk_918 gk_919 gk_920 o_t0 (by decide) rfl rfl rfl ⟨(Nat.le_trans (m := 8) (Nat.le_of_ble_eq_true rfl) hR.1), (Nat.le_trans (m := 163) (Nat.le_of_ble_eq_true rfl) hR.2.1)⟩ ⟨Nat.zero_le _, Nat.zero_le _⟩ rfl rfl (Nat.le_of_ble_eq_true rfl) gd_Law_crank_4 (fun H locs hW => ?_)
  refine lv_i2l hx hb gd_Law_crank_7 rfl ?_
  obtain ⟨g6, h⟩ := gf_if_ok h
  refine gw_last C hW o_t2 g6 gd_Law_crank_8 (fun u7 H locs e8 hW => ?_)
  have h := gf_nm_ok e8 h
  refine lv_goto (tgt := 15) hx hb gd_Law_crank_9 (by decide) ?_
  refine lv_iconst (v := 0) hx hb gd_Law_crank_15 (by decide) ?_
  obtain rfl := Option.some.inj h
  refine W.widen (k := 1) (n := 6) (by decide) (by decide) ?_
  exact gw_iretW C hW hr hk gd_Law_crank_16

set_option maxRecDepth 20000 in
theorem gc_Law_crank (l : Launch) (hfl : l.flags = pinnedFlags ++ [noTraceFlag]) {D : va_G} {cA : Nat → ClassId} {hs : Nat → Nat} {z : gw_Sh} (F : Nat) {u : gw_St} {r0 : Int32 × gw_St} {t0 : Nat} {x1 : Int32} {t2 : Nat} (o_t0 : gw_ok z t0 0) (o_t2 : gw_ok z t2 11) (h : gf_Law_crank F z u t0 x1 t2 = some r0) (sz : Nat) : gw_Mw l gy_Law_crank gb_Law_crank 4 (some .int) [(0, 9, 12, 25)] (xt_rm 8 163) [.ref (hs t0), .int x1, .ref (hs t2)] D cA hs z u sz r0 := by
  refine gw_enterW (by decide) (Nat.le_of_ble_eq_true rfl) ?_
  intro p e s m below meth c ls hsz C hW hr hk htb hZ hN hl
  subst hsz
  exact gx_Law_crank_b0 F C hr hk (xt_rm_ok 8 163) hfl htb hZ hN u t0 x1 t2 o_t0 o_t2 hW (lv_sub hl [0, 1, 2] rfl) h
-- GearDeskLaw.solve(LGearDesk;[J)I
theorem gk_922 : Cond.methodLink R_Law 60 gy_Desk_solve ∈ gt_T := gt_m5 (List.mem_of_getElem? (i := 34) rfl) rfl
theorem gk_923 : Cond.instanceMethod gy_Desk_solve ∈ gt_T := gt_m5 (List.mem_of_getElem? (i := 35) rfl) rfl
theorem gk_924 : Cond.selects R_Desk gy_Desk_solve gy_Desk_solve ∈ gt_T := gt_m5 (List.mem_of_getElem? (i := 36) rfl) rfl
theorem gk_925 : Cond.classLink R_Law 64 (xt_nm 4) ∈ gt_T := gt_m5 (List.mem_of_getElem? (i := 33) rfl) rfl
def gy_Law_solve : MethodName := ⟨R_Law, "solve", "(LGearDesk;[J)I"⟩
abbrev gb_Law_solve : ByteArray := method_16_code
theorem gk_926 : Cond.codeWith gy_Law_solve gb_Law_solve 3 (some .int) [(0, 8, 11, 19), (0, 8, 14, 64)] ∈ gt_T := gt_m5 (List.mem_of_getElem? (i := 32) rfl) rfl
theorem gm_Law_solve : gw_MthW gy_Law_solve gb_Law_solve 3 (some .int) [(0, 8, 11, 19), (0, 8, 14, 64)] 2 := ⟨gk_926, gk_870, ⟨by decide +kernel, by decide +kernel⟩, by decide +kernel⟩
theorem gd_Law_solve_0 : decode gb_Law_solve 0 = .ok (.aload_n 1, 1) := by decide +kernel
theorem gd_Law_solve_1 : decode gb_Law_solve 1 = .ok (.iconst 0, 1) := by decide +kernel
theorem gd_Law_solve_2 : decode gb_Law_solve 2 = .ok (.aload_n 0, 1) := by decide +kernel
theorem gd_Law_solve_3 : decode gb_Law_solve 3 = .ok (.invokevirtual 60, 3) := by decide +kernel
theorem gd_Law_solve_6 : decode gb_Law_solve 6 = .ok (.i2l, 1) := by decide +kernel
theorem gd_Law_solve_7 : decode gb_Law_solve 7 = .ok (.lastore, 1) := by decide +kernel
theorem gd_Law_solve_8 : decode gb_Law_solve 8 = .ok (.goto 9, 3) := by decide +kernel
theorem gd_Law_solve_11 : decode gb_Law_solve 11 = .ok (.astore_n 2, 1) := by decide +kernel
theorem gd_Law_solve_12 : decode gb_Law_solve 12 = .ok (.iconst 1, 1) := by decide +kernel
theorem gd_Law_solve_13 : decode gb_Law_solve 13 = .ok (.ireturn, 1) := by decide +kernel
theorem gd_Law_solve_14 : decode gb_Law_solve 14 = .ok (.astore_n 2, 1) := by decide +kernel
theorem gd_Law_solve_15 : decode gb_Law_solve 15 = .ok (.iconst 2, 1) := by decide +kernel
theorem gd_Law_solve_16 : decode gb_Law_solve 16 = .ok (.ireturn, 1) := by decide +kernel
theorem gd_Law_solve_17 : decode gb_Law_solve 17 = .ok (.iconst 0, 1) := by decide +kernel
theorem gd_Law_solve_18 : decode gb_Law_solve 18 = .ok (.ireturn, 1) := by decide +kernel
def gf_Law_solve_b0 (F : Nat) (z : gw_Sh)  (u : gw_St) (t0 : Nat) (t1 : Nat) : Option (Int32 × gw_St) :=
  gf_ch (gf_Desk_solve F z u t0) (fun k w => if k = 2 then some (1, w) else if k = 4 then some (2, w) else none) fun a3 u1 => if ((0 : Int32) < 0 ∨ z.2.2 t1 ≤ ((0 : Int32)).toNatClampNeg) then none else gf_nm (gw_wl u1 t1 ((0 : Int32)).toNatClampNeg ((a3).toInt64)) fun u8 => some ((0 : Int32), u8)
def gf_Law_solve (F : Nat) (z : gw_Sh) (u : gw_St) (t0 : Nat) (t1 : Nat) : Option (Int32 × gw_St) := gf_Law_solve_b0 F z  u t0 t1
set_option maxHeartbeats 4000000 in
set_option maxRecDepth 20000 in
theorem gx_Law_solve_b0 {p : Program} {l : Launch} {e : Env} {s : State} {m : MethodId} {args : Array Value} {below : List Frame} {meth : Method} {c : Code} {D : va_G} {cA : Nat → ClassId} {hs : Nat → Nat} {z : gw_Sh} (F : Nat) {r0 : (Int32 × gw_St)} (C : gw_Cx p s m args c gb_Law_solve 3 R_Law D cA) (hr : meth.sig.returnType = (some .int)) (hk : meth.locks = false) {R : Room} (hR : 9 ≤ R.frames ∧ 249 ≤ R.locals ∧ 1 ≤ R.cells ∧ 6 ≤ R.slots) (hfl : l.flags = pinnedFlags ++ [noTraceFlag]) (htb : c.exceptionTable.toList = List.map xw_e [(0, 8, 11, 19), (0, 8, 14, 64)]) (hZ : xt_Zs (gw_A hs z s.heap.size) s s.heap) (hN : xt_Nn s) (u : gw_St) (t0 : Nat) (t1 : Nat) (o_t0 : gw_ok z t0 0) (o_t1 : gw_ok z t1 11) {H : Heap} {locs : List Loc} {ls : Array Slot} (hW : gw_Wx D cA hs z s u H locs) (hl : lv_has ls 3 [(0, .ref (hs t0)), (1, .ref (hs t1))]) (h : gf_Law_solve_b0 F z   u t0 t1 = some r0) : gw_Gw p l e R s m args below meth c D cA hs z r0 H locs ls 0 [] := by
  obtain ⟨hx, hb, hml, hown, hts, hK⟩ := id C
  unfold gf_Law_solve_b0 at h
  refine lv_aload_n hx hb gd_Law_solve_0 rfl (lv_at hl 1 rfl) ?_
  refine lv_iconst (v := 0) hx hb gd_Law_solve_1 (by decide) ?_
  refine lv_aload_n hx hb gd_Law_solve_2 rfl (lv_at hl 0 rfl) ?_
  rcases gf_ch_ok h with ⟨k4, u1, d2, h⟩ | ⟨a3, u1, d2, h⟩
  · by_cases c5 : k4 = 2
    · subst c5
      have h := gf_t rfl h
      obtain rfl := Option.some.inj h
      refine xt_catch (K := R_Desk) (As := []) (rest := [.int (0 : Int32), .ref (hs t1)]) C hW (fun _ h => Or.inr h) hZ hl.1 gm_Desk_solve (gt_Desk_solve l hfl F o_t0 d2 _) gk_922 gk_923 gk_924 o_t0 (by decide) rfl rfl rfl ⟨(Nat.le_trans (m := 9) (Nat.le_of_ble_eq_true rfl) hR.1), (Nat.le_trans (m := 249) (Nat.le_of_ble_eq_true rfl) hR.2.1)⟩ ⟨hR.2.2.1, hR.2.2.2⟩ rfl rfl (Nat.le_of_ble_eq_true rfl) gd_Law_solve_3 (w := xw_e (0, 8, 11, 19)) (pre := []) (more := [xw_e (0, 8, 14, 64)]) htb xw_n (by decide) (by decide) gk_875 (fun x H locs hW => ?_)
      refine W.widen (k := 1) (n := 6) (by decide) (by decide) ?_
      refine lv_astore_n (lv' := [(2, .ref x)]) hx hb gd_Law_solve_11 rfl (lv_sub hl [] rfl) (by decide) rfl (fun ls hl => ?_)
      refine lv_iconst (v := 1) hx hb gd_Law_solve_12 (by decide) ?_
      exact gw_iretW C hW hr hk gd_Law_solve_13
    have h := gf_f c5 h
    by_cases c6 : k4 = 4
    · subst c6
      have h := gf_t rfl h
      obtain rfl := Option.some.inj h
      refine xt_catch (K := R_Desk) (As := []) (rest := [.int (0 : Int32), .ref (hs t1)]) C hW (fun _ h => Or.inr h) hZ hl.1 gm_Desk_solve (gt_Desk_solve l hfl F o_t0 d2 _) gk_922 gk_923 gk_924 o_t0 (by decide) rfl rfl rfl ⟨(Nat.le_trans (m := 9) (Nat.le_of_ble_eq_true rfl) hR.1), (Nat.le_trans (m := 249) (Nat.le_of_ble_eq_true rfl) hR.2.1)⟩ ⟨hR.2.2.1, hR.2.2.2⟩ rfl rfl (Nat.le_of_ble_eq_true rfl) gd_Law_solve_3 (w := xw_e (0, 8, 14, 64)) (pre := [(xw_e (0, 8, 11, 19), xt_nm 2)]) (more := []) htb (xw_c ⟨by decide, by decide, gk_875, hN 4 (by decide) 2 (by decide) (by decide)⟩ xw_n) (by decide) (by decide) gk_925 (fun x H locs hW => ?_)
      refine W.widen (k := 1) (n := 6) (by decide) (by decide) ?_
      refine lv_astore_n (lv' := [(2, .ref x)]) hx hb gd_Law_solve_14 rfl (lv_sub hl [] rfl) (by decide) rfl (fun ls hl => ?_)
      refine lv_iconst (v := 2) hx hb gd_Law_solve_15 (by decide) ?_
      exact gw_iretW C hW hr hk gd_Law_solve_16
    have h := gf_f c6 h
    cases h
  refine gw_callVi (K := R_Desk) (As := []) (rest := [.int (0 : Int32), .ref (hs t1)]) C hW (fun _ h => Or.inr h) hl.1 gm_Desk_solve (gc_Desk_solve l hfl F o_t0 d2 _) gk_922 gk_923 gk_924 o_t0 (by decide) rfl rfl rfl ⟨(Nat.le_trans (m := 9) (Nat.le_of_ble_eq_true rfl) hR.1), (Nat.le_trans (m := 249) (Nat.le_of_ble_eq_true rfl) hR.2.1)⟩ ⟨Nat.zero_le _, Nat.zero_le _⟩ rfl rfl (Nat.le_of_ble_eq_true rfl) gd_Law_solve_3 (fun H locs hW => ?_)
  refine lv_i2l hx hb gd_Law_solve_6 rfl ?_
  obtain ⟨g7, h⟩ := gf_if_ok h
  refine gw_last C hW o_t1 g7 gd_Law_solve_7 (fun u8 H locs e9 hW => ?_)
  have h := gf_nm_ok e9 h
  refine lv_goto (tgt := 17) hx hb gd_Law_solve_8 (by decide) ?_
  refine lv_iconst (v := 0) hx hb gd_Law_solve_17 (by decide) ?_
  obtain rfl := Option.some.inj h
  refine W.widen (k := 1) (n := 6) (by decide) (by decide) ?_
  exact gw_iretW C hW hr hk gd_Law_solve_18

set_option maxRecDepth 20000 in
theorem gc_Law_solve (l : Launch) (hfl : l.flags = pinnedFlags ++ [noTraceFlag]) {D : va_G} {cA : Nat → ClassId} {hs : Nat → Nat} {z : gw_Sh} (F : Nat) {u : gw_St} {r0 : Int32 × gw_St} {t0 : Nat} {t1 : Nat} (o_t0 : gw_ok z t0 0) (o_t1 : gw_ok z t1 11) (h : gf_Law_solve F z u t0 t1 = some r0) (sz : Nat) : gw_Mw l gy_Law_solve gb_Law_solve 3 (some .int) [(0, 8, 11, 19), (0, 8, 14, 64)] (xt_rm 9 249) [.ref (hs t0), .ref (hs t1)] D cA hs z u sz r0 := by
  refine gw_enterW (by decide) (Nat.le_of_ble_eq_true rfl) ?_
  intro p e s m below meth c ls hsz C hW hr hk htb hZ hN hl
  subst hsz
  exact gx_Law_solve_b0 F C hr hk (xt_rm_ok 9 249) hfl htb hZ hN u t0 t1 o_t0 o_t1 hW (lv_sub hl [0, 1] rfl) h
-- GearDeskLaw.speed(LGearDesk;III[J)I
theorem gk_927 : Cond.methodLink R_Law 66 gy_Desk_speed ∈ gt_T := gt_m5 (List.mem_of_getElem? (i := 196) rfl) rfl
theorem gk_928 : Cond.instanceMethod gy_Desk_speed ∈ gt_T := gt_m5 (List.mem_of_getElem? (i := 197) rfl) rfl
theorem gk_929 : Cond.selects R_Desk gy_Desk_speed gy_Desk_speed ∈ gt_T := gt_m5 (List.mem_of_getElem? (i := 198) rfl) rfl
def gy_Law_speed : MethodName := ⟨R_Law, "speed", "(LGearDesk;III[J)I"⟩
abbrev gb_Law_speed : ByteArray := method_17_code
theorem gk_930 : Cond.codeWith gy_Law_speed gb_Law_speed 6 (some .int) [(0, 12, 15, 25), (0, 12, 19, 19)] ∈ gt_T := gt_m5 (List.mem_of_getElem? (i := 195) rfl) rfl
theorem gm_Law_speed : gw_MthW gy_Law_speed gb_Law_speed 6 (some .int) [(0, 12, 15, 25), (0, 12, 19, 19)] 5 := ⟨gk_930, gk_870, ⟨by decide +kernel, by decide +kernel⟩, by decide +kernel⟩
theorem gd_Law_speed_0 : decode gb_Law_speed 0 = .ok (.aload 4, 2) := by decide +kernel
theorem gd_Law_speed_2 : decode gb_Law_speed 2 = .ok (.iconst 0, 1) := by decide +kernel
theorem gd_Law_speed_3 : decode gb_Law_speed 3 = .ok (.aload_n 0, 1) := by decide +kernel
theorem gd_Law_speed_4 : decode gb_Law_speed 4 = .ok (.iload_n 1, 1) := by decide +kernel
theorem gd_Law_speed_5 : decode gb_Law_speed 5 = .ok (.iload_n 2, 1) := by decide +kernel
theorem gd_Law_speed_6 : decode gb_Law_speed 6 = .ok (.iload_n 3, 1) := by decide +kernel
theorem gd_Law_speed_7 : decode gb_Law_speed 7 = .ok (.invokevirtual 66, 3) := by decide +kernel
theorem gd_Law_speed_10 : decode gb_Law_speed 10 = .ok (.i2l, 1) := by decide +kernel
theorem gd_Law_speed_11 : decode gb_Law_speed 11 = .ok (.lastore, 1) := by decide +kernel
theorem gd_Law_speed_12 : decode gb_Law_speed 12 = .ok (.goto 11, 3) := by decide +kernel
theorem gd_Law_speed_15 : decode gb_Law_speed 15 = .ok (.astore 5, 2) := by decide +kernel
theorem gd_Law_speed_17 : decode gb_Law_speed 17 = .ok (.iconst 1, 1) := by decide +kernel
theorem gd_Law_speed_18 : decode gb_Law_speed 18 = .ok (.ireturn, 1) := by decide +kernel
theorem gd_Law_speed_19 : decode gb_Law_speed 19 = .ok (.astore 5, 2) := by decide +kernel
theorem gd_Law_speed_21 : decode gb_Law_speed 21 = .ok (.iconst 2, 1) := by decide +kernel
theorem gd_Law_speed_22 : decode gb_Law_speed 22 = .ok (.ireturn, 1) := by decide +kernel
theorem gd_Law_speed_23 : decode gb_Law_speed 23 = .ok (.iconst 0, 1) := by decide +kernel
theorem gd_Law_speed_24 : decode gb_Law_speed 24 = .ok (.ireturn, 1) := by decide +kernel
def gf_Law_speed_b0 (F : Nat) (z : gw_Sh)  (u : gw_St) (t0 : Nat) (x1 : Int32) (x2 : Int32) (x3 : Int32) (t4 : Nat) : Option (Int32 × gw_St) :=
  gf_ch (gf_Desk_speed F z u t0 x1 x2 x3) (fun k w => if k = 3 then some (1, w) else if k = 2 then some (2, w) else none) fun a3 u1 => if ((0 : Int32) < 0 ∨ z.2.2 t4 ≤ ((0 : Int32)).toNatClampNeg) then none else gf_nm (gw_wl u1 t4 ((0 : Int32)).toNatClampNeg ((a3).toInt64)) fun u8 => some ((0 : Int32), u8)
def gf_Law_speed (F : Nat) (z : gw_Sh) (u : gw_St) (t0 : Nat) (x1 : Int32) (x2 : Int32) (x3 : Int32) (t4 : Nat) : Option (Int32 × gw_St) := gf_Law_speed_b0 F z  u t0 x1 x2 x3 t4
set_option maxHeartbeats 4000000 in
set_option maxRecDepth 20000 in
theorem gx_Law_speed_b0 {p : Program} {l : Launch} {e : Env} {s : State} {m : MethodId} {args : Array Value} {below : List Frame} {meth : Method} {c : Code} {D : va_G} {cA : Nat → ClassId} {hs : Nat → Nat} {z : gw_Sh} (F : Nat) {r0 : (Int32 × gw_St)} (C : gw_Cx p s m args c gb_Law_speed 6 R_Law D cA) (hr : meth.sig.returnType = (some .int)) (hk : meth.locks = false) {R : Room} (hR : 8 ≤ R.frames ∧ 165 ≤ R.locals ∧ 1 ≤ R.cells ∧ 6 ≤ R.slots) (hfl : l.flags = pinnedFlags ++ [noTraceFlag]) (htb : c.exceptionTable.toList = List.map xw_e [(0, 12, 15, 25), (0, 12, 19, 19)]) (hZ : xt_Zs (gw_A hs z s.heap.size) s s.heap) (hN : xt_Nn s) (u : gw_St) (t0 : Nat) (x1 : Int32) (x2 : Int32) (x3 : Int32) (t4 : Nat) (o_t0 : gw_ok z t0 0) (o_t4 : gw_ok z t4 11) {H : Heap} {locs : List Loc} {ls : Array Slot} (hW : gw_Wx D cA hs z s u H locs) (hl : lv_has ls 6 [(0, .ref (hs t0)), (1, .int x1), (2, .int x2), (3, .int x3), (4, .ref (hs t4))]) (h : gf_Law_speed_b0 F z   u t0 x1 x2 x3 t4 = some r0) : gw_Gw p l e R s m args below meth c D cA hs z r0 H locs ls 0 [] := by
  obtain ⟨hx, hb, hml, hown, hts, hK⟩ := id C
  unfold gf_Law_speed_b0 at h
  refine lv_aload hx hb gd_Law_speed_0 (lv_at hl 4 rfl) ?_
  refine lv_iconst (v := 0) hx hb gd_Law_speed_2 (by decide) ?_
  refine lv_aload_n hx hb gd_Law_speed_3 rfl (lv_at hl 0 rfl) ?_
  refine lv_iload_n hx hb gd_Law_speed_4 rfl (lv_at hl 1 rfl) ?_
  refine lv_iload_n hx hb gd_Law_speed_5 rfl (lv_at hl 2 rfl) ?_
  refine lv_iload_n hx hb gd_Law_speed_6 rfl (lv_at hl 3 rfl) ?_
  rcases gf_ch_ok h with ⟨k4, u1, d2, h⟩ | ⟨a3, u1, d2, h⟩
  · by_cases c5 : k4 = 3
    · subst c5
      have h := gf_t rfl h
      obtain rfl := Option.some.inj h
      refine xt_catch (K := R_Desk) (As := [.int x1, .int x2, .int x3]) (rest := [.int (0 : Int32), .ref (hs t4)]) C hW (fun _ h => Or.inr h) hZ hl.1 gm_Desk_speed (gt_Desk_speed l hfl F o_t0 d2 _) gk_927 gk_928 gk_929 o_t0 (by decide) rfl rfl rfl ⟨(Nat.le_trans (m := 8) (Nat.le_of_ble_eq_true rfl) hR.1), (Nat.le_trans (m := 165) (Nat.le_of_ble_eq_true rfl) hR.2.1)⟩ ⟨hR.2.2.1, hR.2.2.2⟩ rfl rfl (Nat.le_of_ble_eq_true rfl) gd_Law_speed_7 (w := xw_e (0, 12, 15, 25)) (pre := []) (more := [xw_e (0, 12, 19, 19)]) htb xw_n (by decide) (by decide) gk_880 (fun x H locs hW => ?_)
      refine W.widen (k := 1) (n := 6) (by decide) (by decide) ?_
      refine lv_astore (lv' := [(5, .ref x)]) hx hb gd_Law_speed_15 (lv_sub hl [] rfl) (by decide) rfl (fun ls hl => ?_)
      refine lv_iconst (v := 1) hx hb gd_Law_speed_17 (by decide) ?_
      exact gw_iretW C hW hr hk gd_Law_speed_18
    have h := gf_f c5 h
    by_cases c6 : k4 = 2
    · subst c6
      have h := gf_t rfl h
      obtain rfl := Option.some.inj h
      refine xt_catch (K := R_Desk) (As := [.int x1, .int x2, .int x3]) (rest := [.int (0 : Int32), .ref (hs t4)]) C hW (fun _ h => Or.inr h) hZ hl.1 gm_Desk_speed (gt_Desk_speed l hfl F o_t0 d2 _) gk_927 gk_928 gk_929 o_t0 (by decide) rfl rfl rfl ⟨(Nat.le_trans (m := 8) (Nat.le_of_ble_eq_true rfl) hR.1), (Nat.le_trans (m := 165) (Nat.le_of_ble_eq_true rfl) hR.2.1)⟩ ⟨hR.2.2.1, hR.2.2.2⟩ rfl rfl (Nat.le_of_ble_eq_true rfl) gd_Law_speed_7 (w := xw_e (0, 12, 19, 19)) (pre := [(xw_e (0, 12, 15, 25), xt_nm 3)]) (more := []) htb (xw_c ⟨by decide, by decide, gk_880, hN 2 (by decide) 3 (by decide) (by decide)⟩ xw_n) (by decide) (by decide) gk_875 (fun x H locs hW => ?_)
      refine W.widen (k := 1) (n := 6) (by decide) (by decide) ?_
      refine lv_astore (lv' := [(5, .ref x)]) hx hb gd_Law_speed_19 (lv_sub hl [] rfl) (by decide) rfl (fun ls hl => ?_)
      refine lv_iconst (v := 2) hx hb gd_Law_speed_21 (by decide) ?_
      exact gw_iretW C hW hr hk gd_Law_speed_22
    have h := gf_f c6 h
    cases h
  refine gw_callVi (K := R_Desk) (As := [.int x1, .int x2, .int x3]) (rest := [.int (0 : Int32), .ref (hs t4)]) C hW (fun _ h => Or.inr h) hl.1 gm_Desk_speed (gc_Desk_speed l hfl F o_t0 d2 _) gk_927 gk_928 gk_929 o_t0 (by decide) rfl rfl rfl ⟨(Nat.le_trans (m := 8) (Nat.le_of_ble_eq_true rfl) hR.1), (Nat.le_trans (m := 165) (Nat.le_of_ble_eq_true rfl) hR.2.1)⟩ ⟨Nat.zero_le _, Nat.zero_le _⟩ rfl rfl (Nat.le_of_ble_eq_true rfl) gd_Law_speed_7 (fun H locs hW => ?_)
  refine lv_i2l hx hb gd_Law_speed_10 rfl ?_
  obtain ⟨g7, h⟩ := gf_if_ok h
  refine gw_last C hW o_t4 g7 gd_Law_speed_11 (fun u8 H locs e9 hW => ?_)
  have h := gf_nm_ok e9 h
  refine lv_goto (tgt := 23) hx hb gd_Law_speed_12 (by decide) ?_
  refine lv_iconst (v := 0) hx hb gd_Law_speed_23 (by decide) ?_
  obtain rfl := Option.some.inj h
  refine W.widen (k := 1) (n := 6) (by decide) (by decide) ?_
  exact gw_iretW C hW hr hk gd_Law_speed_24

set_option maxRecDepth 20000 in
theorem gc_Law_speed (l : Launch) (hfl : l.flags = pinnedFlags ++ [noTraceFlag]) {D : va_G} {cA : Nat → ClassId} {hs : Nat → Nat} {z : gw_Sh} (F : Nat) {u : gw_St} {r0 : Int32 × gw_St} {t0 : Nat} {x1 : Int32} {x2 : Int32} {x3 : Int32} {t4 : Nat} (o_t0 : gw_ok z t0 0) (o_t4 : gw_ok z t4 11) (h : gf_Law_speed F z u t0 x1 x2 x3 t4 = some r0) (sz : Nat) : gw_Mw l gy_Law_speed gb_Law_speed 6 (some .int) [(0, 12, 15, 25), (0, 12, 19, 19)] (xt_rm 8 165) [.ref (hs t0), .int x1, .int x2, .int x3, .ref (hs t4)] D cA hs z u sz r0 := by
  refine gw_enterW (by decide) (Nat.le_of_ble_eq_true rfl) ?_
  intro p e s m below meth c ls hsz C hW hr hk htb hZ hN hl
  subst hsz
  exact gx_Law_speed_b0 F C hr hk (xt_rm_ok 8 165) hfl htb hZ hN u t0 x1 x2 x3 t4 o_t0 o_t4 hW (lv_sub hl [0, 1, 2, 3, 4] rfl) h
-- GearDeskLaw.dial(LGearDesk;III[J)I
theorem gk_931 : Cond.methodLink R_Law 69 gy_Desk_dial ∈ gt_T := gt_m5 (List.mem_of_getElem? (i := 207) rfl) rfl
theorem gk_932 : Cond.instanceMethod gy_Desk_dial ∈ gt_T := gt_m5 (List.mem_of_getElem? (i := 208) rfl) rfl
theorem gk_933 : Cond.selects R_Desk gy_Desk_dial gy_Desk_dial ∈ gt_T := gt_m5 (List.mem_of_getElem? (i := 209) rfl) rfl
def gy_Law_dial : MethodName := ⟨R_Law, "dial", "(LGearDesk;III[J)I"⟩
abbrev gb_Law_dial : ByteArray := method_18_code
theorem gk_934 : Cond.codeWith gy_Law_dial gb_Law_dial 6 (some .int) [(0, 12, 15, 25), (0, 12, 19, 13)] ∈ gt_T := gt_m5 (List.mem_of_getElem? (i := 206) rfl) rfl
theorem gm_Law_dial : gw_MthW gy_Law_dial gb_Law_dial 6 (some .int) [(0, 12, 15, 25), (0, 12, 19, 13)] 5 := ⟨gk_934, gk_870, ⟨by decide +kernel, by decide +kernel⟩, by decide +kernel⟩
theorem gd_Law_dial_0 : decode gb_Law_dial 0 = .ok (.aload 4, 2) := by decide +kernel
theorem gd_Law_dial_2 : decode gb_Law_dial 2 = .ok (.iconst 0, 1) := by decide +kernel
theorem gd_Law_dial_3 : decode gb_Law_dial 3 = .ok (.aload_n 0, 1) := by decide +kernel
theorem gd_Law_dial_4 : decode gb_Law_dial 4 = .ok (.iload_n 1, 1) := by decide +kernel
theorem gd_Law_dial_5 : decode gb_Law_dial 5 = .ok (.iload_n 2, 1) := by decide +kernel
theorem gd_Law_dial_6 : decode gb_Law_dial 6 = .ok (.iload_n 3, 1) := by decide +kernel
theorem gd_Law_dial_7 : decode gb_Law_dial 7 = .ok (.invokevirtual 69, 3) := by decide +kernel
theorem gd_Law_dial_10 : decode gb_Law_dial 10 = .ok (.i2l, 1) := by decide +kernel
theorem gd_Law_dial_11 : decode gb_Law_dial 11 = .ok (.lastore, 1) := by decide +kernel
theorem gd_Law_dial_12 : decode gb_Law_dial 12 = .ok (.goto 11, 3) := by decide +kernel
theorem gd_Law_dial_15 : decode gb_Law_dial 15 = .ok (.astore 5, 2) := by decide +kernel
theorem gd_Law_dial_17 : decode gb_Law_dial 17 = .ok (.iconst 1, 1) := by decide +kernel
theorem gd_Law_dial_18 : decode gb_Law_dial 18 = .ok (.ireturn, 1) := by decide +kernel
theorem gd_Law_dial_19 : decode gb_Law_dial 19 = .ok (.astore 5, 2) := by decide +kernel
theorem gd_Law_dial_21 : decode gb_Law_dial 21 = .ok (.iconst 2, 1) := by decide +kernel
theorem gd_Law_dial_22 : decode gb_Law_dial 22 = .ok (.ireturn, 1) := by decide +kernel
theorem gd_Law_dial_23 : decode gb_Law_dial 23 = .ok (.iconst 0, 1) := by decide +kernel
theorem gd_Law_dial_24 : decode gb_Law_dial 24 = .ok (.ireturn, 1) := by decide +kernel
def gf_Law_dial_b0 (F : Nat) (z : gw_Sh)  (u : gw_St) (t0 : Nat) (x1 : Int32) (x2 : Int32) (x3 : Int32) (t4 : Nat) : Option (Int32 × gw_St) :=
  gf_ch (gf_Desk_dial F z u t0 x1 x2 x3) (fun k w => if k = 3 then some (1, w) else if k = 1 then some (2, w) else none) fun a3 u1 => if ((0 : Int32) < 0 ∨ z.2.2 t4 ≤ ((0 : Int32)).toNatClampNeg) then none else gf_nm (gw_wl u1 t4 ((0 : Int32)).toNatClampNeg ((a3).toInt64)) fun u8 => some ((0 : Int32), u8)
def gf_Law_dial (F : Nat) (z : gw_Sh) (u : gw_St) (t0 : Nat) (x1 : Int32) (x2 : Int32) (x3 : Int32) (t4 : Nat) : Option (Int32 × gw_St) := gf_Law_dial_b0 F z  u t0 x1 x2 x3 t4
set_option maxHeartbeats 4000000 in
set_option maxRecDepth 20000 in
theorem gx_Law_dial_b0 {p : Program} {l : Launch} {e : Env} {s : State} {m : MethodId} {args : Array Value} {below : List Frame} {meth : Method} {c : Code} {D : va_G} {cA : Nat → ClassId} {hs : Nat → Nat} {z : gw_Sh} (F : Nat) {r0 : (Int32 × gw_St)} (C : gw_Cx p s m args c gb_Law_dial 6 R_Law D cA) (hr : meth.sig.returnType = (some .int)) (hk : meth.locks = false) {R : Room} (hR : 8 ≤ R.frames ∧ 165 ≤ R.locals ∧ 1 ≤ R.cells ∧ 6 ≤ R.slots) (hfl : l.flags = pinnedFlags ++ [noTraceFlag]) (htb : c.exceptionTable.toList = List.map xw_e [(0, 12, 15, 25), (0, 12, 19, 13)]) (hZ : xt_Zs (gw_A hs z s.heap.size) s s.heap) (hN : xt_Nn s) (u : gw_St) (t0 : Nat) (x1 : Int32) (x2 : Int32) (x3 : Int32) (t4 : Nat) (o_t0 : gw_ok z t0 0) (o_t4 : gw_ok z t4 11) {H : Heap} {locs : List Loc} {ls : Array Slot} (hW : gw_Wx D cA hs z s u H locs) (hl : lv_has ls 6 [(0, .ref (hs t0)), (1, .int x1), (2, .int x2), (3, .int x3), (4, .ref (hs t4))]) (h : gf_Law_dial_b0 F z   u t0 x1 x2 x3 t4 = some r0) : gw_Gw p l e R s m args below meth c D cA hs z r0 H locs ls 0 [] := by
  obtain ⟨hx, hb, hml, hown, hts, hK⟩ := id C
  unfold gf_Law_dial_b0 at h
  refine lv_aload hx hb gd_Law_dial_0 (lv_at hl 4 rfl) ?_
  refine lv_iconst (v := 0) hx hb gd_Law_dial_2 (by decide) ?_
  refine lv_aload_n hx hb gd_Law_dial_3 rfl (lv_at hl 0 rfl) ?_
  refine lv_iload_n hx hb gd_Law_dial_4 rfl (lv_at hl 1 rfl) ?_
  refine lv_iload_n hx hb gd_Law_dial_5 rfl (lv_at hl 2 rfl) ?_
  refine lv_iload_n hx hb gd_Law_dial_6 rfl (lv_at hl 3 rfl) ?_
  rcases gf_ch_ok h with ⟨k4, u1, d2, h⟩ | ⟨a3, u1, d2, h⟩
  · by_cases c5 : k4 = 3
    · subst c5
      have h := gf_t rfl h
      obtain rfl := Option.some.inj h
      refine xt_catch (K := R_Desk) (As := [.int x1, .int x2, .int x3]) (rest := [.int (0 : Int32), .ref (hs t4)]) C hW (fun _ h => Or.inr h) hZ hl.1 gm_Desk_dial (gt_Desk_dial l hfl F o_t0 d2 _) gk_931 gk_932 gk_933 o_t0 (by decide) rfl rfl rfl ⟨(Nat.le_trans (m := 8) (Nat.le_of_ble_eq_true rfl) hR.1), (Nat.le_trans (m := 165) (Nat.le_of_ble_eq_true rfl) hR.2.1)⟩ ⟨hR.2.2.1, hR.2.2.2⟩ rfl rfl (Nat.le_of_ble_eq_true rfl) gd_Law_dial_7 (w := xw_e (0, 12, 15, 25)) (pre := []) (more := [xw_e (0, 12, 19, 13)]) htb xw_n (by decide) (by decide) gk_880 (fun x H locs hW => ?_)
      refine W.widen (k := 1) (n := 6) (by decide) (by decide) ?_
      refine lv_astore (lv' := [(5, .ref x)]) hx hb gd_Law_dial_15 (lv_sub hl [] rfl) (by decide) rfl (fun ls hl => ?_)
      refine lv_iconst (v := 1) hx hb gd_Law_dial_17 (by decide) ?_
      exact gw_iretW C hW hr hk gd_Law_dial_18
    have h := gf_f c5 h
    by_cases c6 : k4 = 1
    · subst c6
      have h := gf_t rfl h
      obtain rfl := Option.some.inj h
      refine xt_catch (K := R_Desk) (As := [.int x1, .int x2, .int x3]) (rest := [.int (0 : Int32), .ref (hs t4)]) C hW (fun _ h => Or.inr h) hZ hl.1 gm_Desk_dial (gt_Desk_dial l hfl F o_t0 d2 _) gk_931 gk_932 gk_933 o_t0 (by decide) rfl rfl rfl ⟨(Nat.le_trans (m := 8) (Nat.le_of_ble_eq_true rfl) hR.1), (Nat.le_trans (m := 165) (Nat.le_of_ble_eq_true rfl) hR.2.1)⟩ ⟨hR.2.2.1, hR.2.2.2⟩ rfl rfl (Nat.le_of_ble_eq_true rfl) gd_Law_dial_7 (w := xw_e (0, 12, 19, 13)) (pre := [(xw_e (0, 12, 15, 25), xt_nm 3)]) (more := []) htb (xw_c ⟨by decide, by decide, gk_880, hN 1 (by decide) 3 (by decide) (by decide)⟩ xw_n) (by decide) (by decide) gk_869 (fun x H locs hW => ?_)
      refine W.widen (k := 1) (n := 6) (by decide) (by decide) ?_
      refine lv_astore (lv' := [(5, .ref x)]) hx hb gd_Law_dial_19 (lv_sub hl [] rfl) (by decide) rfl (fun ls hl => ?_)
      refine lv_iconst (v := 2) hx hb gd_Law_dial_21 (by decide) ?_
      exact gw_iretW C hW hr hk gd_Law_dial_22
    have h := gf_f c6 h
    cases h
  refine gw_callVi (K := R_Desk) (As := [.int x1, .int x2, .int x3]) (rest := [.int (0 : Int32), .ref (hs t4)]) C hW (fun _ h => Or.inr h) hl.1 gm_Desk_dial (gc_Desk_dial l hfl F o_t0 d2 _) gk_931 gk_932 gk_933 o_t0 (by decide) rfl rfl rfl ⟨(Nat.le_trans (m := 8) (Nat.le_of_ble_eq_true rfl) hR.1), (Nat.le_trans (m := 165) (Nat.le_of_ble_eq_true rfl) hR.2.1)⟩ ⟨Nat.zero_le _, Nat.zero_le _⟩ rfl rfl (Nat.le_of_ble_eq_true rfl) gd_Law_dial_7 (fun H locs hW => ?_)
  refine lv_i2l hx hb gd_Law_dial_10 rfl ?_
  obtain ⟨g7, h⟩ := gf_if_ok h
  refine gw_last C hW o_t4 g7 gd_Law_dial_11 (fun u8 H locs e9 hW => ?_)
  have h := gf_nm_ok e9 h
  refine lv_goto (tgt := 23) hx hb gd_Law_dial_12 (by decide) ?_
  refine lv_iconst (v := 0) hx hb gd_Law_dial_23 (by decide) ?_
  obtain rfl := Option.some.inj h
  refine W.widen (k := 1) (n := 6) (by decide) (by decide) ?_
  exact gw_iretW C hW hr hk gd_Law_dial_24

set_option maxRecDepth 20000 in
theorem gc_Law_dial (l : Launch) (hfl : l.flags = pinnedFlags ++ [noTraceFlag]) {D : va_G} {cA : Nat → ClassId} {hs : Nat → Nat} {z : gw_Sh} (F : Nat) {u : gw_St} {r0 : Int32 × gw_St} {t0 : Nat} {x1 : Int32} {x2 : Int32} {x3 : Int32} {t4 : Nat} (o_t0 : gw_ok z t0 0) (o_t4 : gw_ok z t4 11) (h : gf_Law_dial F z u t0 x1 x2 x3 t4 = some r0) (sz : Nat) : gw_Mw l gy_Law_dial gb_Law_dial 6 (some .int) [(0, 12, 15, 25), (0, 12, 19, 13)] (xt_rm 8 165) [.ref (hs t0), .int x1, .int x2, .int x3, .ref (hs t4)] D cA hs z u sz r0 := by
  refine gw_enterW (by decide) (Nat.le_of_ble_eq_true rfl) ?_
  intro p e s m below meth c ls hsz C hW hr hk htb hZ hN hl
  subst hsz
  exact gx_Law_dial_b0 F C hr hk (xt_rm_ok 8 165) hfl htb hZ hN u t0 x1 x2 x3 t4 o_t0 o_t4 hW (lv_sub hl [0, 1, 2, 3, 4] rfl) h
-- GearDeskLaw.position(LGearDesk;III[J)I
theorem gk_935 : Cond.methodLink R_Law 72 gy_Desk_position ∈ gt_T := gt_m5 (List.mem_of_getElem? (i := 215) rfl) rfl
theorem gk_936 : Cond.instanceMethod gy_Desk_position ∈ gt_T := gt_m5 (List.mem_of_getElem? (i := 216) rfl) rfl
theorem gk_937 : Cond.selects R_Desk gy_Desk_position gy_Desk_position ∈ gt_T := gt_m5 (List.mem_of_getElem? (i := 217) rfl) rfl
def gy_Law_position : MethodName := ⟨R_Law, "position", "(LGearDesk;III[J)I"⟩
abbrev gb_Law_position : ByteArray := method_19_code
theorem gk_938 : Cond.codeWith gy_Law_position gb_Law_position 6 (some .int) [(0, 12, 15, 25), (0, 12, 19, 13), (0, 12, 23, 19), (0, 12, 27, 64)] ∈ gt_T := gt_m5 (List.mem_of_getElem? (i := 214) rfl) rfl
theorem gm_Law_position : gw_MthW gy_Law_position gb_Law_position 6 (some .int) [(0, 12, 15, 25), (0, 12, 19, 13), (0, 12, 23, 19), (0, 12, 27, 64)] 5 := ⟨gk_938, gk_870, ⟨by decide +kernel, by decide +kernel⟩, by decide +kernel⟩
theorem gd_Law_position_0 : decode gb_Law_position 0 = .ok (.aload 4, 2) := by decide +kernel
theorem gd_Law_position_2 : decode gb_Law_position 2 = .ok (.iconst 0, 1) := by decide +kernel
theorem gd_Law_position_3 : decode gb_Law_position 3 = .ok (.aload_n 0, 1) := by decide +kernel
theorem gd_Law_position_4 : decode gb_Law_position 4 = .ok (.iload_n 1, 1) := by decide +kernel
theorem gd_Law_position_5 : decode gb_Law_position 5 = .ok (.iload_n 2, 1) := by decide +kernel
theorem gd_Law_position_6 : decode gb_Law_position 6 = .ok (.iload_n 3, 1) := by decide +kernel
theorem gd_Law_position_7 : decode gb_Law_position 7 = .ok (.invokevirtual 72, 3) := by decide +kernel
theorem gd_Law_position_10 : decode gb_Law_position 10 = .ok (.i2l, 1) := by decide +kernel
theorem gd_Law_position_11 : decode gb_Law_position 11 = .ok (.lastore, 1) := by decide +kernel
theorem gd_Law_position_12 : decode gb_Law_position 12 = .ok (.goto 19, 3) := by decide +kernel
theorem gd_Law_position_15 : decode gb_Law_position 15 = .ok (.astore 5, 2) := by decide +kernel
theorem gd_Law_position_17 : decode gb_Law_position 17 = .ok (.iconst 1, 1) := by decide +kernel
theorem gd_Law_position_18 : decode gb_Law_position 18 = .ok (.ireturn, 1) := by decide +kernel
theorem gd_Law_position_19 : decode gb_Law_position 19 = .ok (.astore 5, 2) := by decide +kernel
theorem gd_Law_position_21 : decode gb_Law_position 21 = .ok (.iconst 2, 1) := by decide +kernel
theorem gd_Law_position_22 : decode gb_Law_position 22 = .ok (.ireturn, 1) := by decide +kernel
theorem gd_Law_position_23 : decode gb_Law_position 23 = .ok (.astore 5, 2) := by decide +kernel
theorem gd_Law_position_25 : decode gb_Law_position 25 = .ok (.iconst 3, 1) := by decide +kernel
theorem gd_Law_position_26 : decode gb_Law_position 26 = .ok (.ireturn, 1) := by decide +kernel
theorem gd_Law_position_27 : decode gb_Law_position 27 = .ok (.astore 5, 2) := by decide +kernel
theorem gd_Law_position_29 : decode gb_Law_position 29 = .ok (.iconst 4, 1) := by decide +kernel
theorem gd_Law_position_30 : decode gb_Law_position 30 = .ok (.ireturn, 1) := by decide +kernel
theorem gd_Law_position_31 : decode gb_Law_position 31 = .ok (.iconst 0, 1) := by decide +kernel
theorem gd_Law_position_32 : decode gb_Law_position 32 = .ok (.ireturn, 1) := by decide +kernel
def gf_Law_position_b0 (F : Nat) (z : gw_Sh)  (u : gw_St) (t0 : Nat) (x1 : Int32) (x2 : Int32) (x3 : Int32) (t4 : Nat) : Option (Int32 × gw_St) :=
  gf_ch (gf_Desk_position F z u t0 x1 x2 x3) (fun k w => if k = 3 then some (1, w) else if k = 1 then some (2, w) else if k = 2 then some (3, w) else if k = 4 then some (4, w) else none) fun a3 u1 => if ((0 : Int32) < 0 ∨ z.2.2 t4 ≤ ((0 : Int32)).toNatClampNeg) then none else gf_nm (gw_wl u1 t4 ((0 : Int32)).toNatClampNeg ((a3).toInt64)) fun u10 => some ((0 : Int32), u10)
def gf_Law_position (F : Nat) (z : gw_Sh) (u : gw_St) (t0 : Nat) (x1 : Int32) (x2 : Int32) (x3 : Int32) (t4 : Nat) : Option (Int32 × gw_St) := gf_Law_position_b0 F z  u t0 x1 x2 x3 t4
set_option maxHeartbeats 4000000 in
set_option maxRecDepth 20000 in
theorem gx_Law_position_b0 {p : Program} {l : Launch} {e : Env} {s : State} {m : MethodId} {args : Array Value} {below : List Frame} {meth : Method} {c : Code} {D : va_G} {cA : Nat → ClassId} {hs : Nat → Nat} {z : gw_Sh} (F : Nat) {r0 : (Int32 × gw_St)} (C : gw_Cx p s m args c gb_Law_position 6 R_Law D cA) (hr : meth.sig.returnType = (some .int)) (hk : meth.locks = false) {R : Room} (hR : 8 ≤ R.frames ∧ 234 ≤ R.locals ∧ 1 ≤ R.cells ∧ 6 ≤ R.slots) (hfl : l.flags = pinnedFlags ++ [noTraceFlag]) (htb : c.exceptionTable.toList = List.map xw_e [(0, 12, 15, 25), (0, 12, 19, 13), (0, 12, 23, 19), (0, 12, 27, 64)]) (hZ : xt_Zs (gw_A hs z s.heap.size) s s.heap) (hN : xt_Nn s) (u : gw_St) (t0 : Nat) (x1 : Int32) (x2 : Int32) (x3 : Int32) (t4 : Nat) (o_t0 : gw_ok z t0 0) (o_t4 : gw_ok z t4 11) {H : Heap} {locs : List Loc} {ls : Array Slot} (hW : gw_Wx D cA hs z s u H locs) (hl : lv_has ls 6 [(0, .ref (hs t0)), (1, .int x1), (2, .int x2), (3, .int x3), (4, .ref (hs t4))]) (h : gf_Law_position_b0 F z   u t0 x1 x2 x3 t4 = some r0) : gw_Gw p l e R s m args below meth c D cA hs z r0 H locs ls 0 [] := by
  obtain ⟨hx, hb, hml, hown, hts, hK⟩ := id C
  unfold gf_Law_position_b0 at h
  refine lv_aload hx hb gd_Law_position_0 (lv_at hl 4 rfl) ?_
  refine lv_iconst (v := 0) hx hb gd_Law_position_2 (by decide) ?_
  refine lv_aload_n hx hb gd_Law_position_3 rfl (lv_at hl 0 rfl) ?_
  refine lv_iload_n hx hb gd_Law_position_4 rfl (lv_at hl 1 rfl) ?_
  refine lv_iload_n hx hb gd_Law_position_5 rfl (lv_at hl 2 rfl) ?_
  refine lv_iload_n hx hb gd_Law_position_6 rfl (lv_at hl 3 rfl) ?_
  rcases gf_ch_ok h with ⟨k4, u1, d2, h⟩ | ⟨a3, u1, d2, h⟩
  · by_cases c5 : k4 = 3
    · subst c5
      have h := gf_t rfl h
      obtain rfl := Option.some.inj h
      refine xt_catch (K := R_Desk) (As := [.int x1, .int x2, .int x3]) (rest := [.int (0 : Int32), .ref (hs t4)]) C hW (fun _ h => Or.inr h) hZ hl.1 gm_Desk_position (gt_Desk_position l hfl F o_t0 d2 _) gk_935 gk_936 gk_937 o_t0 (by decide) rfl rfl rfl ⟨(Nat.le_trans (m := 8) (Nat.le_of_ble_eq_true rfl) hR.1), (Nat.le_trans (m := 234) (Nat.le_of_ble_eq_true rfl) hR.2.1)⟩ ⟨hR.2.2.1, hR.2.2.2⟩ rfl rfl (Nat.le_of_ble_eq_true rfl) gd_Law_position_7 (w := xw_e (0, 12, 15, 25)) (pre := []) (more := [xw_e (0, 12, 19, 13), xw_e (0, 12, 23, 19), xw_e (0, 12, 27, 64)]) htb xw_n (by decide) (by decide) gk_880 (fun x H locs hW => ?_)
      refine W.widen (k := 1) (n := 6) (by decide) (by decide) ?_
      refine lv_astore (lv' := [(5, .ref x)]) hx hb gd_Law_position_15 (lv_sub hl [] rfl) (by decide) rfl (fun ls hl => ?_)
      refine lv_iconst (v := 1) hx hb gd_Law_position_17 (by decide) ?_
      exact gw_iretW C hW hr hk gd_Law_position_18
    have h := gf_f c5 h
    by_cases c6 : k4 = 1
    · subst c6
      have h := gf_t rfl h
      obtain rfl := Option.some.inj h
      refine xt_catch (K := R_Desk) (As := [.int x1, .int x2, .int x3]) (rest := [.int (0 : Int32), .ref (hs t4)]) C hW (fun _ h => Or.inr h) hZ hl.1 gm_Desk_position (gt_Desk_position l hfl F o_t0 d2 _) gk_935 gk_936 gk_937 o_t0 (by decide) rfl rfl rfl ⟨(Nat.le_trans (m := 8) (Nat.le_of_ble_eq_true rfl) hR.1), (Nat.le_trans (m := 234) (Nat.le_of_ble_eq_true rfl) hR.2.1)⟩ ⟨hR.2.2.1, hR.2.2.2⟩ rfl rfl (Nat.le_of_ble_eq_true rfl) gd_Law_position_7 (w := xw_e (0, 12, 19, 13)) (pre := [(xw_e (0, 12, 15, 25), xt_nm 3)]) (more := [xw_e (0, 12, 23, 19), xw_e (0, 12, 27, 64)]) htb (xw_c ⟨by decide, by decide, gk_880, hN 1 (by decide) 3 (by decide) (by decide)⟩ xw_n) (by decide) (by decide) gk_869 (fun x H locs hW => ?_)
      refine W.widen (k := 1) (n := 6) (by decide) (by decide) ?_
      refine lv_astore (lv' := [(5, .ref x)]) hx hb gd_Law_position_19 (lv_sub hl [] rfl) (by decide) rfl (fun ls hl => ?_)
      refine lv_iconst (v := 2) hx hb gd_Law_position_21 (by decide) ?_
      exact gw_iretW C hW hr hk gd_Law_position_22
    have h := gf_f c6 h
    by_cases c7 : k4 = 2
    · subst c7
      have h := gf_t rfl h
      obtain rfl := Option.some.inj h
      refine xt_catch (K := R_Desk) (As := [.int x1, .int x2, .int x3]) (rest := [.int (0 : Int32), .ref (hs t4)]) C hW (fun _ h => Or.inr h) hZ hl.1 gm_Desk_position (gt_Desk_position l hfl F o_t0 d2 _) gk_935 gk_936 gk_937 o_t0 (by decide) rfl rfl rfl ⟨(Nat.le_trans (m := 8) (Nat.le_of_ble_eq_true rfl) hR.1), (Nat.le_trans (m := 234) (Nat.le_of_ble_eq_true rfl) hR.2.1)⟩ ⟨hR.2.2.1, hR.2.2.2⟩ rfl rfl (Nat.le_of_ble_eq_true rfl) gd_Law_position_7 (w := xw_e (0, 12, 23, 19)) (pre := [(xw_e (0, 12, 15, 25), xt_nm 3), (xw_e (0, 12, 19, 13), xt_nm 1)]) (more := [xw_e (0, 12, 27, 64)]) htb (xw_c ⟨by decide, by decide, gk_880, hN 2 (by decide) 3 (by decide) (by decide)⟩ (xw_c ⟨by decide, by decide, gk_869, hN 2 (by decide) 1 (by decide) (by decide)⟩ xw_n)) (by decide) (by decide) gk_875 (fun x H locs hW => ?_)
      refine W.widen (k := 1) (n := 6) (by decide) (by decide) ?_
      refine lv_astore (lv' := [(5, .ref x)]) hx hb gd_Law_position_23 (lv_sub hl [] rfl) (by decide) rfl (fun ls hl => ?_)
      refine lv_iconst (v := 3) hx hb gd_Law_position_25 (by decide) ?_
      exact gw_iretW C hW hr hk gd_Law_position_26
    have h := gf_f c7 h
    by_cases c8 : k4 = 4
    · subst c8
      have h := gf_t rfl h
      obtain rfl := Option.some.inj h
      refine xt_catch (K := R_Desk) (As := [.int x1, .int x2, .int x3]) (rest := [.int (0 : Int32), .ref (hs t4)]) C hW (fun _ h => Or.inr h) hZ hl.1 gm_Desk_position (gt_Desk_position l hfl F o_t0 d2 _) gk_935 gk_936 gk_937 o_t0 (by decide) rfl rfl rfl ⟨(Nat.le_trans (m := 8) (Nat.le_of_ble_eq_true rfl) hR.1), (Nat.le_trans (m := 234) (Nat.le_of_ble_eq_true rfl) hR.2.1)⟩ ⟨hR.2.2.1, hR.2.2.2⟩ rfl rfl (Nat.le_of_ble_eq_true rfl) gd_Law_position_7 (w := xw_e (0, 12, 27, 64)) (pre := [(xw_e (0, 12, 15, 25), xt_nm 3), (xw_e (0, 12, 19, 13), xt_nm 1), (xw_e (0, 12, 23, 19), xt_nm 2)]) (more := []) htb (xw_c ⟨by decide, by decide, gk_880, hN 4 (by decide) 3 (by decide) (by decide)⟩ (xw_c ⟨by decide, by decide, gk_869, hN 4 (by decide) 1 (by decide) (by decide)⟩ (xw_c ⟨by decide, by decide, gk_875, hN 4 (by decide) 2 (by decide) (by decide)⟩ xw_n))) (by decide) (by decide) gk_925 (fun x H locs hW => ?_)
      refine W.widen (k := 1) (n := 6) (by decide) (by decide) ?_
      refine lv_astore (lv' := [(5, .ref x)]) hx hb gd_Law_position_27 (lv_sub hl [] rfl) (by decide) rfl (fun ls hl => ?_)
      refine lv_iconst (v := 4) hx hb gd_Law_position_29 (by decide) ?_
      exact gw_iretW C hW hr hk gd_Law_position_30
    have h := gf_f c8 h
    cases h
  refine gw_callVi (K := R_Desk) (As := [.int x1, .int x2, .int x3]) (rest := [.int (0 : Int32), .ref (hs t4)]) C hW (fun _ h => Or.inr h) hl.1 gm_Desk_position (gc_Desk_position l hfl F o_t0 d2 _) gk_935 gk_936 gk_937 o_t0 (by decide) rfl rfl rfl ⟨(Nat.le_trans (m := 8) (Nat.le_of_ble_eq_true rfl) hR.1), (Nat.le_trans (m := 234) (Nat.le_of_ble_eq_true rfl) hR.2.1)⟩ ⟨Nat.zero_le _, Nat.zero_le _⟩ rfl rfl (Nat.le_of_ble_eq_true rfl) gd_Law_position_7 (fun H locs hW => ?_)
  refine lv_i2l hx hb gd_Law_position_10 rfl ?_
  obtain ⟨g9, h⟩ := gf_if_ok h
  refine gw_last C hW o_t4 g9 gd_Law_position_11 (fun u10 H locs e11 hW => ?_)
  have h := gf_nm_ok e11 h
  refine lv_goto (tgt := 31) hx hb gd_Law_position_12 (by decide) ?_
  refine lv_iconst (v := 0) hx hb gd_Law_position_31 (by decide) ?_
  obtain rfl := Option.some.inj h
  refine W.widen (k := 1) (n := 6) (by decide) (by decide) ?_
  exact gw_iretW C hW hr hk gd_Law_position_32

set_option maxRecDepth 20000 in
theorem gc_Law_position (l : Launch) (hfl : l.flags = pinnedFlags ++ [noTraceFlag]) {D : va_G} {cA : Nat → ClassId} {hs : Nat → Nat} {z : gw_Sh} (F : Nat) {u : gw_St} {r0 : Int32 × gw_St} {t0 : Nat} {x1 : Int32} {x2 : Int32} {x3 : Int32} {t4 : Nat} (o_t0 : gw_ok z t0 0) (o_t4 : gw_ok z t4 11) (h : gf_Law_position F z u t0 x1 x2 x3 t4 = some r0) (sz : Nat) : gw_Mw l gy_Law_position gb_Law_position 6 (some .int) [(0, 12, 15, 25), (0, 12, 19, 13), (0, 12, 23, 19), (0, 12, 27, 64)] (xt_rm 8 234) [.ref (hs t0), .int x1, .int x2, .int x3, .ref (hs t4)] D cA hs z u sz r0 := by
  refine gw_enterW (by decide) (Nat.le_of_ble_eq_true rfl) ?_
  intro p e s m below meth c ls hsz C hW hr hk htb hZ hN hl
  subst hsz
  exact gx_Law_position_b0 F C hr hk (xt_rm_ok 8 234) hfl htb hZ hN u t0 x1 x2 x3 t4 o_t0 o_t4 hW (lv_sub hl [0, 1, 2, 3, 4] rfl) h
-- GearDeskLaw.meet(LGearDesk;II[J)I
theorem gk_939 : Cond.methodLink R_Law 75 gy_Desk_meet ∈ gt_T := gt_m6 (List.mem_of_getElem? (i := 3) rfl) rfl
theorem gk_940 : Cond.instanceMethod gy_Desk_meet ∈ gt_T := gt_m6 (List.mem_of_getElem? (i := 4) rfl) rfl
theorem gk_941 : Cond.selects R_Desk gy_Desk_meet gy_Desk_meet ∈ gt_T := gt_m6 (List.mem_of_getElem? (i := 5) rfl) rfl
def gy_Law_meet : MethodName := ⟨R_Law, "meet", "(LGearDesk;II[J)I"⟩
abbrev gb_Law_meet : ByteArray := method_20_code
theorem gk_942 : Cond.codeWith gy_Law_meet gb_Law_meet 5 (some .int) [(0, 17, 20, 25), (0, 17, 24, 64)] ∈ gt_T := gt_m6 (List.mem_of_getElem? (i := 2) rfl) rfl
theorem gm_Law_meet : gw_MthW gy_Law_meet gb_Law_meet 5 (some .int) [(0, 17, 20, 25), (0, 17, 24, 64)] 4 := ⟨gk_942, gk_870, ⟨by decide +kernel, by decide +kernel⟩, by decide +kernel⟩
theorem gd_Law_meet_0 : decode gb_Law_meet 0 = .ok (.aload_n 3, 1) := by decide +kernel
theorem gd_Law_meet_1 : decode gb_Law_meet 1 = .ok (.iconst 0, 1) := by decide +kernel
theorem gd_Law_meet_2 : decode gb_Law_meet 2 = .ok (.aload_n 0, 1) := by decide +kernel
theorem gd_Law_meet_3 : decode gb_Law_meet 3 = .ok (.iload_n 1, 1) := by decide +kernel
theorem gd_Law_meet_4 : decode gb_Law_meet 4 = .ok (.iload_n 2, 1) := by decide +kernel
theorem gd_Law_meet_5 : decode gb_Law_meet 5 = .ok (.invokevirtual 75, 3) := by decide +kernel
theorem gd_Law_meet_8 : decode gb_Law_meet 8 = .ok (.ifCond .eq 7, 3) := by decide +kernel
theorem gd_Law_meet_11 : decode gb_Law_meet 11 = .ok (.lconst 1, 1) := by decide +kernel
theorem gd_Law_meet_12 : decode gb_Law_meet 12 = .ok (.goto 4, 3) := by decide +kernel
theorem gd_Law_meet_15 : decode gb_Law_meet 15 = .ok (.lconst 0, 1) := by decide +kernel
theorem gd_Law_meet_16 : decode gb_Law_meet 16 = .ok (.lastore, 1) := by decide +kernel
theorem gd_Law_meet_17 : decode gb_Law_meet 17 = .ok (.goto 11, 3) := by decide +kernel
theorem gd_Law_meet_20 : decode gb_Law_meet 20 = .ok (.astore 4, 2) := by decide +kernel
theorem gd_Law_meet_22 : decode gb_Law_meet 22 = .ok (.iconst 1, 1) := by decide +kernel
theorem gd_Law_meet_23 : decode gb_Law_meet 23 = .ok (.ireturn, 1) := by decide +kernel
theorem gd_Law_meet_24 : decode gb_Law_meet 24 = .ok (.astore 4, 2) := by decide +kernel
theorem gd_Law_meet_26 : decode gb_Law_meet 26 = .ok (.iconst 2, 1) := by decide +kernel
theorem gd_Law_meet_27 : decode gb_Law_meet 27 = .ok (.ireturn, 1) := by decide +kernel
theorem gd_Law_meet_28 : decode gb_Law_meet 28 = .ok (.iconst 0, 1) := by decide +kernel
theorem gd_Law_meet_29 : decode gb_Law_meet 29 = .ok (.ireturn, 1) := by decide +kernel
def gf_Law_meet_b16 (F : Nat) (z : gw_Sh)  (u : gw_St) (st0 : Nat) (sx1 : Int32) (sy2 : Int64) : Option (Int32 × gw_St) :=
  if (sx1 < 0 ∨ z.2.2 st0 ≤ (sx1).toNatClampNeg) then none else gf_nm (gw_wl u st0 (sx1).toNatClampNeg sy2) fun u2 => some ((0 : Int32), u2)
def gf_Law_meet_b0 (F : Nat) (z : gw_Sh)  (u : gw_St) (t0 : Nat) (x1 : Int32) (x2 : Int32) (t3 : Nat) : Option (Int32 × gw_St) :=
  gf_ch (gf_Desk_meet F z u t0 x1 x2) (fun k w => if k = 3 then some (1, w) else if k = 4 then some (2, w) else none) fun a6 u4 => if a6 = 0 then (gf_Law_meet_b16 F z  u4 t3 0 0) else (gf_Law_meet_b16 F z  u4 t3 0 1)
def gf_Law_meet (F : Nat) (z : gw_Sh) (u : gw_St) (t0 : Nat) (x1 : Int32) (x2 : Int32) (t3 : Nat) : Option (Int32 × gw_St) := gf_Law_meet_b0 F z  u t0 x1 x2 t3
set_option maxHeartbeats 4000000 in
set_option maxRecDepth 20000 in
theorem gx_Law_meet_b16 {p : Program} {l : Launch} {e : Env} {s : State} {m : MethodId} {args : Array Value} {below : List Frame} {meth : Method} {c : Code} {D : va_G} {cA : Nat → ClassId} {hs : Nat → Nat} {z : gw_Sh} (F : Nat) {r0 : (Int32 × gw_St)} (C : gw_Cx p s m args c gb_Law_meet 5 R_Law D cA) (hr : meth.sig.returnType = (some .int)) (hk : meth.locks = false) {R : Room} (hR : 8 ≤ R.frames ∧ 230 ≤ R.locals ∧ 1 ≤ R.cells ∧ 6 ≤ R.slots) (hfl : l.flags = pinnedFlags ++ [noTraceFlag]) (htb : c.exceptionTable.toList = List.map xw_e [(0, 17, 20, 25), (0, 17, 24, 64)]) (hZ : xt_Zs (gw_A hs z s.heap.size) s s.heap) (hN : xt_Nn s) (u : gw_St) (st0 : Nat) (sx1 : Int32) (sy2 : Int64) (o_st0 : gw_ok z st0 11) {H : Heap} {locs : List Loc} {ls : Array Slot} (hW : gw_Wx D cA hs z s u H locs) (hl : lv_has ls 5 []) (h : gf_Law_meet_b16 F z   u st0 sx1 sy2 = some r0) : gw_Gw p l e R s m args below meth c D cA hs z r0 H locs ls 16 [.long sy2, .int sx1, .ref (hs st0)] := by
  obtain ⟨hx, hb, hml, hown, hts, hK⟩ := id C
  unfold gf_Law_meet_b16 at h
  obtain ⟨g1, h⟩ := gf_if_ok h
  refine gw_last C hW o_st0 g1 gd_Law_meet_16 (fun u2 H locs e3 hW => ?_)
  have h := gf_nm_ok e3 h
  refine lv_goto (tgt := 28) hx hb gd_Law_meet_17 (by decide) ?_
  refine lv_iconst (v := 0) hx hb gd_Law_meet_28 (by decide) ?_
  obtain rfl := Option.some.inj h
  refine W.widen (k := 1) (n := 6) (by decide) (by decide) ?_
  exact gw_iretW C hW hr hk gd_Law_meet_29

set_option maxHeartbeats 4000000 in
set_option maxRecDepth 20000 in
theorem gx_Law_meet_b0 {p : Program} {l : Launch} {e : Env} {s : State} {m : MethodId} {args : Array Value} {below : List Frame} {meth : Method} {c : Code} {D : va_G} {cA : Nat → ClassId} {hs : Nat → Nat} {z : gw_Sh} (F : Nat) {r0 : (Int32 × gw_St)} (C : gw_Cx p s m args c gb_Law_meet 5 R_Law D cA) (hr : meth.sig.returnType = (some .int)) (hk : meth.locks = false) {R : Room} (hR : 8 ≤ R.frames ∧ 230 ≤ R.locals ∧ 1 ≤ R.cells ∧ 6 ≤ R.slots) (hfl : l.flags = pinnedFlags ++ [noTraceFlag]) (htb : c.exceptionTable.toList = List.map xw_e [(0, 17, 20, 25), (0, 17, 24, 64)]) (hZ : xt_Zs (gw_A hs z s.heap.size) s s.heap) (hN : xt_Nn s) (u : gw_St) (t0 : Nat) (x1 : Int32) (x2 : Int32) (t3 : Nat) (o_t0 : gw_ok z t0 0) (o_t3 : gw_ok z t3 11) {H : Heap} {locs : List Loc} {ls : Array Slot} (hW : gw_Wx D cA hs z s u H locs) (hl : lv_has ls 5 [(0, .ref (hs t0)), (1, .int x1), (2, .int x2), (3, .ref (hs t3))]) (h : gf_Law_meet_b0 F z   u t0 x1 x2 t3 = some r0) : gw_Gw p l e R s m args below meth c D cA hs z r0 H locs ls 0 [] := by
  obtain ⟨hx, hb, hml, hown, hts, hK⟩ := id C
  unfold gf_Law_meet_b0 at h
  refine lv_aload_n hx hb gd_Law_meet_0 rfl (lv_at hl 3 rfl) ?_
  refine lv_iconst (v := 0) hx hb gd_Law_meet_1 (by decide) ?_
  refine lv_aload_n hx hb gd_Law_meet_2 rfl (lv_at hl 0 rfl) ?_
  refine lv_iload_n hx hb gd_Law_meet_3 rfl (lv_at hl 1 rfl) ?_
  refine lv_iload_n hx hb gd_Law_meet_4 rfl (lv_at hl 2 rfl) ?_
  rcases gf_ch_ok h with ⟨k7, u4, d5, h⟩ | ⟨a6, u4, d5, h⟩
  · by_cases c8 : k7 = 3
    · subst c8
      have h := gf_t rfl h
      obtain rfl := Option.some.inj h
      refine xt_catch (K := R_Desk) (As := [.int x1, .int x2]) (rest := [.int (0 : Int32), .ref (hs t3)]) C hW (fun _ h => Or.inr h) hZ hl.1 gm_Desk_meet (gt_Desk_meet l hfl F o_t0 d5 _) gk_939 gk_940 gk_941 o_t0 (by decide) rfl rfl rfl ⟨(Nat.le_trans (m := 8) (Nat.le_of_ble_eq_true rfl) hR.1), (Nat.le_trans (m := 230) (Nat.le_of_ble_eq_true rfl) hR.2.1)⟩ ⟨hR.2.2.1, hR.2.2.2⟩ rfl rfl (Nat.le_of_ble_eq_true rfl) gd_Law_meet_5 (w := xw_e (0, 17, 20, 25)) (pre := []) (more := [xw_e (0, 17, 24, 64)]) htb xw_n (by decide) (by decide) gk_880 (fun x H locs hW => ?_)
      refine W.widen (k := 1) (n := 6) (by decide) (by decide) ?_
      refine lv_astore (lv' := [(4, .ref x)]) hx hb gd_Law_meet_20 (lv_sub hl [] rfl) (by decide) rfl (fun ls hl => ?_)
      refine lv_iconst (v := 1) hx hb gd_Law_meet_22 (by decide) ?_
      exact gw_iretW C hW hr hk gd_Law_meet_23
    have h := gf_f c8 h
    by_cases c9 : k7 = 4
    · subst c9
      have h := gf_t rfl h
      obtain rfl := Option.some.inj h
      refine xt_catch (K := R_Desk) (As := [.int x1, .int x2]) (rest := [.int (0 : Int32), .ref (hs t3)]) C hW (fun _ h => Or.inr h) hZ hl.1 gm_Desk_meet (gt_Desk_meet l hfl F o_t0 d5 _) gk_939 gk_940 gk_941 o_t0 (by decide) rfl rfl rfl ⟨(Nat.le_trans (m := 8) (Nat.le_of_ble_eq_true rfl) hR.1), (Nat.le_trans (m := 230) (Nat.le_of_ble_eq_true rfl) hR.2.1)⟩ ⟨hR.2.2.1, hR.2.2.2⟩ rfl rfl (Nat.le_of_ble_eq_true rfl) gd_Law_meet_5 (w := xw_e (0, 17, 24, 64)) (pre := [(xw_e (0, 17, 20, 25), xt_nm 3)]) (more := []) htb (xw_c ⟨by decide, by decide, gk_880, hN 4 (by decide) 3 (by decide) (by decide)⟩ xw_n) (by decide) (by decide) gk_925 (fun x H locs hW => ?_)
      refine W.widen (k := 1) (n := 6) (by decide) (by decide) ?_
      refine lv_astore (lv' := [(4, .ref x)]) hx hb gd_Law_meet_24 (lv_sub hl [] rfl) (by decide) rfl (fun ls hl => ?_)
      refine lv_iconst (v := 2) hx hb gd_Law_meet_26 (by decide) ?_
      exact gw_iretW C hW hr hk gd_Law_meet_27
    have h := gf_f c9 h
    cases h
  refine gw_callVi (K := R_Desk) (As := [.int x1, .int x2]) (rest := [.int (0 : Int32), .ref (hs t3)]) C hW (fun _ h => Or.inr h) hl.1 gm_Desk_meet (gc_Desk_meet l hfl F o_t0 d5 _) gk_939 gk_940 gk_941 o_t0 (by decide) rfl rfl rfl ⟨(Nat.le_trans (m := 8) (Nat.le_of_ble_eq_true rfl) hR.1), (Nat.le_trans (m := 230) (Nat.le_of_ble_eq_true rfl) hR.2.1)⟩ ⟨Nat.zero_le _, Nat.zero_le _⟩ rfl rfl (Nat.le_of_ble_eq_true rfl) gd_Law_meet_5 (fun H locs hW => ?_)
  refine lv_if_eq (tgt := 15) hx hb gd_Law_meet_8 (by decide) (fun c10 => ?_) (fun c10 => ?_)
  · have h := gf_t c10 h
    refine lv_lconst (v := 0) hx hb gd_Law_meet_15 (by decide) ?_
    exact gx_Law_meet_b16 F C hr hk hR hfl htb hZ hN  u4 t3 0 0 o_t3 hW (lv_sub hl [] rfl) h
  · have h := gf_f c10 h
    refine lv_lconst (v := 1) hx hb gd_Law_meet_11 (by decide) ?_
    refine lv_goto (tgt := 16) hx hb gd_Law_meet_12 (by decide) ?_
    exact gx_Law_meet_b16 F C hr hk hR hfl htb hZ hN  u4 t3 0 1 o_t3 hW (lv_sub hl [] rfl) h

set_option maxRecDepth 20000 in
theorem gc_Law_meet (l : Launch) (hfl : l.flags = pinnedFlags ++ [noTraceFlag]) {D : va_G} {cA : Nat → ClassId} {hs : Nat → Nat} {z : gw_Sh} (F : Nat) {u : gw_St} {r0 : Int32 × gw_St} {t0 : Nat} {x1 : Int32} {x2 : Int32} {t3 : Nat} (o_t0 : gw_ok z t0 0) (o_t3 : gw_ok z t3 11) (h : gf_Law_meet F z u t0 x1 x2 t3 = some r0) (sz : Nat) : gw_Mw l gy_Law_meet gb_Law_meet 5 (some .int) [(0, 17, 20, 25), (0, 17, 24, 64)] (xt_rm 8 230) [.ref (hs t0), .int x1, .int x2, .ref (hs t3)] D cA hs z u sz r0 := by
  refine gw_enterW (by decide) (Nat.le_of_ble_eq_true rfl) ?_
  intro p e s m below meth c ls hsz C hW hr hk htb hZ hN hl
  subst hsz
  exact gx_Law_meet_b0 F C hr hk (xt_rm_ok 8 230) hfl htb hZ hN u t0 x1 x2 t3 o_t0 o_t3 hW (lv_sub hl [0, 1, 2, 3] rfl) h
-- GearDeskLaw.back(LGearDesk;[J)I
theorem gk_943 : Cond.methodLink R_Law 79 gy_Desk_back ∈ gt_T := gt_m6 (List.mem_of_getElem? (i := 14) rfl) rfl
theorem gk_944 : Cond.instanceMethod gy_Desk_back ∈ gt_T := gt_m6 (List.mem_of_getElem? (i := 15) rfl) rfl
theorem gk_945 : Cond.selects R_Desk gy_Desk_back gy_Desk_back ∈ gt_T := gt_m6 (List.mem_of_getElem? (i := 16) rfl) rfl
def gy_Law_back : MethodName := ⟨R_Law, "back", "(LGearDesk;[J)I"⟩
abbrev gb_Law_back : ByteArray := method_21_code
theorem gk_946 : Cond.codeWith gy_Law_back gb_Law_back 3 (some .int) [(0, 15, 18, 64)] ∈ gt_T := gt_m6 (List.mem_of_getElem? (i := 13) rfl) rfl
theorem gm_Law_back : gw_MthW gy_Law_back gb_Law_back 3 (some .int) [(0, 15, 18, 64)] 2 := ⟨gk_946, gk_870, ⟨by decide +kernel, by decide +kernel⟩, by decide +kernel⟩
theorem gd_Law_back_0 : decode gb_Law_back 0 = .ok (.aload_n 1, 1) := by decide +kernel
theorem gd_Law_back_1 : decode gb_Law_back 1 = .ok (.iconst 0, 1) := by decide +kernel
theorem gd_Law_back_2 : decode gb_Law_back 2 = .ok (.aload_n 0, 1) := by decide +kernel
theorem gd_Law_back_3 : decode gb_Law_back 3 = .ok (.invokevirtual 79, 3) := by decide +kernel
theorem gd_Law_back_6 : decode gb_Law_back 6 = .ok (.ifCond .eq 7, 3) := by decide +kernel
theorem gd_Law_back_9 : decode gb_Law_back 9 = .ok (.lconst 1, 1) := by decide +kernel
theorem gd_Law_back_10 : decode gb_Law_back 10 = .ok (.goto 4, 3) := by decide +kernel
theorem gd_Law_back_13 : decode gb_Law_back 13 = .ok (.lconst 0, 1) := by decide +kernel
theorem gd_Law_back_14 : decode gb_Law_back 14 = .ok (.lastore, 1) := by decide +kernel
theorem gd_Law_back_15 : decode gb_Law_back 15 = .ok (.goto 6, 3) := by decide +kernel
theorem gd_Law_back_18 : decode gb_Law_back 18 = .ok (.astore_n 2, 1) := by decide +kernel
theorem gd_Law_back_19 : decode gb_Law_back 19 = .ok (.iconst 1, 1) := by decide +kernel
theorem gd_Law_back_20 : decode gb_Law_back 20 = .ok (.ireturn, 1) := by decide +kernel
theorem gd_Law_back_21 : decode gb_Law_back 21 = .ok (.iconst 0, 1) := by decide +kernel
theorem gd_Law_back_22 : decode gb_Law_back 22 = .ok (.ireturn, 1) := by decide +kernel
def gf_Law_back_b14 (F : Nat) (z : gw_Sh)  (u : gw_St) (st0 : Nat) (sx1 : Int32) (sy2 : Int64) : Option (Int32 × gw_St) :=
  if (sx1 < 0 ∨ z.2.2 st0 ≤ (sx1).toNatClampNeg) then none else gf_nm (gw_wl u st0 (sx1).toNatClampNeg sy2) fun u2 => some ((0 : Int32), u2)
def gf_Law_back_b0 (F : Nat) (z : gw_Sh)  (u : gw_St) (t0 : Nat) (t1 : Nat) : Option (Int32 × gw_St) :=
  gf_ch (gf_Desk_back F z u t0) (fun k w => if k = 4 then some (1, w) else none) fun a6 u4 => if a6 = 0 then (gf_Law_back_b14 F z  u4 t1 0 0) else (gf_Law_back_b14 F z  u4 t1 0 1)
def gf_Law_back (F : Nat) (z : gw_Sh) (u : gw_St) (t0 : Nat) (t1 : Nat) : Option (Int32 × gw_St) := gf_Law_back_b0 F z  u t0 t1
set_option maxHeartbeats 4000000 in
set_option maxRecDepth 20000 in
theorem gx_Law_back_b14 {p : Program} {l : Launch} {e : Env} {s : State} {m : MethodId} {args : Array Value} {below : List Frame} {meth : Method} {c : Code} {D : va_G} {cA : Nat → ClassId} {hs : Nat → Nat} {z : gw_Sh} (F : Nat) {r0 : (Int32 × gw_St)} (C : gw_Cx p s m args c gb_Law_back 3 R_Law D cA) (hr : meth.sig.returnType = (some .int)) (hk : meth.locks = false) {R : Room} (hR : 8 ≤ R.frames ∧ 205 ≤ R.locals ∧ 1 ≤ R.cells ∧ 6 ≤ R.slots) (hfl : l.flags = pinnedFlags ++ [noTraceFlag]) (htb : c.exceptionTable.toList = List.map xw_e [(0, 15, 18, 64)]) (hZ : xt_Zs (gw_A hs z s.heap.size) s s.heap) (hN : xt_Nn s) (u : gw_St) (st0 : Nat) (sx1 : Int32) (sy2 : Int64) (o_st0 : gw_ok z st0 11) {H : Heap} {locs : List Loc} {ls : Array Slot} (hW : gw_Wx D cA hs z s u H locs) (hl : lv_has ls 3 []) (h : gf_Law_back_b14 F z   u st0 sx1 sy2 = some r0) : gw_Gw p l e R s m args below meth c D cA hs z r0 H locs ls 14 [.long sy2, .int sx1, .ref (hs st0)] := by
  obtain ⟨hx, hb, hml, hown, hts, hK⟩ := id C
  unfold gf_Law_back_b14 at h
  obtain ⟨g1, h⟩ := gf_if_ok h
  refine gw_last C hW o_st0 g1 gd_Law_back_14 (fun u2 H locs e3 hW => ?_)
  have h := gf_nm_ok e3 h
  refine lv_goto (tgt := 21) hx hb gd_Law_back_15 (by decide) ?_
  refine lv_iconst (v := 0) hx hb gd_Law_back_21 (by decide) ?_
  obtain rfl := Option.some.inj h
  refine W.widen (k := 1) (n := 6) (by decide) (by decide) ?_
  exact gw_iretW C hW hr hk gd_Law_back_22

set_option maxHeartbeats 4000000 in
set_option maxRecDepth 20000 in
theorem gx_Law_back_b0 {p : Program} {l : Launch} {e : Env} {s : State} {m : MethodId} {args : Array Value} {below : List Frame} {meth : Method} {c : Code} {D : va_G} {cA : Nat → ClassId} {hs : Nat → Nat} {z : gw_Sh} (F : Nat) {r0 : (Int32 × gw_St)} (C : gw_Cx p s m args c gb_Law_back 3 R_Law D cA) (hr : meth.sig.returnType = (some .int)) (hk : meth.locks = false) {R : Room} (hR : 8 ≤ R.frames ∧ 205 ≤ R.locals ∧ 1 ≤ R.cells ∧ 6 ≤ R.slots) (hfl : l.flags = pinnedFlags ++ [noTraceFlag]) (htb : c.exceptionTable.toList = List.map xw_e [(0, 15, 18, 64)]) (hZ : xt_Zs (gw_A hs z s.heap.size) s s.heap) (hN : xt_Nn s) (u : gw_St) (t0 : Nat) (t1 : Nat) (o_t0 : gw_ok z t0 0) (o_t1 : gw_ok z t1 11) {H : Heap} {locs : List Loc} {ls : Array Slot} (hW : gw_Wx D cA hs z s u H locs) (hl : lv_has ls 3 [(0, .ref (hs t0)), (1, .ref (hs t1))]) (h : gf_Law_back_b0 F z   u t0 t1 = some r0) : gw_Gw p l e R s m args below meth c D cA hs z r0 H locs ls 0 [] := by
  obtain ⟨hx, hb, hml, hown, hts, hK⟩ := id C
  unfold gf_Law_back_b0 at h
  refine lv_aload_n hx hb gd_Law_back_0 rfl (lv_at hl 1 rfl) ?_
  refine lv_iconst (v := 0) hx hb gd_Law_back_1 (by decide) ?_
  refine lv_aload_n hx hb gd_Law_back_2 rfl (lv_at hl 0 rfl) ?_
  rcases gf_ch_ok h with ⟨k7, u4, d5, h⟩ | ⟨a6, u4, d5, h⟩
  · by_cases c8 : k7 = 4
    · subst c8
      have h := gf_t rfl h
      obtain rfl := Option.some.inj h
      refine xt_catch (K := R_Desk) (As := []) (rest := [.int (0 : Int32), .ref (hs t1)]) C hW (fun _ h => Or.inr h) hZ hl.1 gm_Desk_back (gt_Desk_back l hfl F o_t0 d5 _) gk_943 gk_944 gk_945 o_t0 (by decide) rfl rfl rfl ⟨(Nat.le_trans (m := 8) (Nat.le_of_ble_eq_true rfl) hR.1), (Nat.le_trans (m := 205) (Nat.le_of_ble_eq_true rfl) hR.2.1)⟩ ⟨hR.2.2.1, hR.2.2.2⟩ rfl rfl (Nat.le_of_ble_eq_true rfl) gd_Law_back_3 (w := xw_e (0, 15, 18, 64)) (pre := []) (more := []) htb xw_n (by decide) (by decide) gk_925 (fun x H locs hW => ?_)
      refine W.widen (k := 1) (n := 6) (by decide) (by decide) ?_
      refine lv_astore_n (lv' := [(2, .ref x)]) hx hb gd_Law_back_18 rfl (lv_sub hl [] rfl) (by decide) rfl (fun ls hl => ?_)
      refine lv_iconst (v := 1) hx hb gd_Law_back_19 (by decide) ?_
      exact gw_iretW C hW hr hk gd_Law_back_20
    have h := gf_f c8 h
    cases h
  refine gw_callVi (K := R_Desk) (As := []) (rest := [.int (0 : Int32), .ref (hs t1)]) C hW (fun _ h => Or.inr h) hl.1 gm_Desk_back (gc_Desk_back l hfl F o_t0 d5 _) gk_943 gk_944 gk_945 o_t0 (by decide) rfl rfl rfl ⟨(Nat.le_trans (m := 8) (Nat.le_of_ble_eq_true rfl) hR.1), (Nat.le_trans (m := 205) (Nat.le_of_ble_eq_true rfl) hR.2.1)⟩ ⟨Nat.zero_le _, Nat.zero_le _⟩ rfl rfl (Nat.le_of_ble_eq_true rfl) gd_Law_back_3 (fun H locs hW => ?_)
  refine lv_if_eq (tgt := 13) hx hb gd_Law_back_6 (by decide) (fun c9 => ?_) (fun c9 => ?_)
  · have h := gf_t c9 h
    refine lv_lconst (v := 0) hx hb gd_Law_back_13 (by decide) ?_
    exact gx_Law_back_b14 F C hr hk hR hfl htb hZ hN  u4 t1 0 0 o_t1 hW (lv_sub hl [] rfl) h
  · have h := gf_f c9 h
    refine lv_lconst (v := 1) hx hb gd_Law_back_9 (by decide) ?_
    refine lv_goto (tgt := 14) hx hb gd_Law_back_10 (by decide) ?_
    exact gx_Law_back_b14 F C hr hk hR hfl htb hZ hN  u4 t1 0 1 o_t1 hW (lv_sub hl [] rfl) h

set_option maxRecDepth 20000 in
theorem gc_Law_back (l : Launch) (hfl : l.flags = pinnedFlags ++ [noTraceFlag]) {D : va_G} {cA : Nat → ClassId} {hs : Nat → Nat} {z : gw_Sh} (F : Nat) {u : gw_St} {r0 : Int32 × gw_St} {t0 : Nat} {t1 : Nat} (o_t0 : gw_ok z t0 0) (o_t1 : gw_ok z t1 11) (h : gf_Law_back F z u t0 t1 = some r0) (sz : Nat) : gw_Mw l gy_Law_back gb_Law_back 3 (some .int) [(0, 15, 18, 64)] (xt_rm 8 205) [.ref (hs t0), .ref (hs t1)] D cA hs z u sz r0 := by
  refine gw_enterW (by decide) (Nat.le_of_ble_eq_true rfl) ?_
  intro p e s m below meth c ls hsz C hW hr hk htb hZ hN hl
  subst hsz
  exact gx_Law_back_b0 F C hr hk (xt_rm_ok 8 205) hfl htb hZ hN u t0 t1 o_t0 o_t1 hW (lv_sub hl [0, 1] rfl) h
-- GearDeskLaw.result(LGearDesk;II[J)I
theorem gk_947 : Cond.methodLink R_Law 83 gy_Desk_result ∈ gt_T := gt_m6 (List.mem_of_getElem? (i := 35) rfl) rfl
theorem gk_948 : Cond.instanceMethod gy_Desk_result ∈ gt_T := gt_m6 (List.mem_of_getElem? (i := 36) rfl) rfl
theorem gk_949 : Cond.selects R_Desk gy_Desk_result gy_Desk_result ∈ gt_T := gt_m6 (List.mem_of_getElem? (i := 37) rfl) rfl
def gy_Law_result : MethodName := ⟨R_Law, "result", "(LGearDesk;II[J)I"⟩
abbrev gb_Law_result : ByteArray := method_22_code
theorem gk_950 : Cond.codeWith gy_Law_result gb_Law_result 5 (some .int) [(0, 10, 13, 25)] ∈ gt_T := gt_m6 (List.mem_of_getElem? (i := 34) rfl) rfl
theorem gm_Law_result : gw_MthW gy_Law_result gb_Law_result 5 (some .int) [(0, 10, 13, 25)] 4 := ⟨gk_950, gk_870, ⟨by decide +kernel, by decide +kernel⟩, by decide +kernel⟩
theorem gd_Law_result_0 : decode gb_Law_result 0 = .ok (.aload_n 3, 1) := by decide +kernel
theorem gd_Law_result_1 : decode gb_Law_result 1 = .ok (.iconst 0, 1) := by decide +kernel
theorem gd_Law_result_2 : decode gb_Law_result 2 = .ok (.aload_n 0, 1) := by decide +kernel
theorem gd_Law_result_3 : decode gb_Law_result 3 = .ok (.iload_n 1, 1) := by decide +kernel
theorem gd_Law_result_4 : decode gb_Law_result 4 = .ok (.iload_n 2, 1) := by decide +kernel
theorem gd_Law_result_5 : decode gb_Law_result 5 = .ok (.invokevirtual 83, 3) := by decide +kernel
theorem gd_Law_result_8 : decode gb_Law_result 8 = .ok (.i2l, 1) := by decide +kernel
theorem gd_Law_result_9 : decode gb_Law_result 9 = .ok (.lastore, 1) := by decide +kernel
theorem gd_Law_result_10 : decode gb_Law_result 10 = .ok (.goto 7, 3) := by decide +kernel
theorem gd_Law_result_13 : decode gb_Law_result 13 = .ok (.astore 4, 2) := by decide +kernel
theorem gd_Law_result_15 : decode gb_Law_result 15 = .ok (.iconst 1, 1) := by decide +kernel
theorem gd_Law_result_16 : decode gb_Law_result 16 = .ok (.ireturn, 1) := by decide +kernel
theorem gd_Law_result_17 : decode gb_Law_result 17 = .ok (.iconst 0, 1) := by decide +kernel
theorem gd_Law_result_18 : decode gb_Law_result 18 = .ok (.ireturn, 1) := by decide +kernel
def gf_Law_result_b0 (F : Nat) (z : gw_Sh)  (u : gw_St) (t0 : Nat) (x1 : Int32) (x2 : Int32) (t3 : Nat) : Option (Int32 × gw_St) :=
  gf_ch (gf_Desk_result F z u t0 x1 x2) (fun k w => if k = 3 then some (1, w) else none) fun a3 u1 => if ((0 : Int32) < 0 ∨ z.2.2 t3 ≤ ((0 : Int32)).toNatClampNeg) then none else gf_nm (gw_wl u1 t3 ((0 : Int32)).toNatClampNeg ((a3).toInt64)) fun u7 => some ((0 : Int32), u7)
def gf_Law_result (F : Nat) (z : gw_Sh) (u : gw_St) (t0 : Nat) (x1 : Int32) (x2 : Int32) (t3 : Nat) : Option (Int32 × gw_St) := gf_Law_result_b0 F z  u t0 x1 x2 t3
set_option maxHeartbeats 4000000 in
set_option maxRecDepth 20000 in
theorem gx_Law_result_b0 {p : Program} {l : Launch} {e : Env} {s : State} {m : MethodId} {args : Array Value} {below : List Frame} {meth : Method} {c : Code} {D : va_G} {cA : Nat → ClassId} {hs : Nat → Nat} {z : gw_Sh} (F : Nat) {r0 : (Int32 × gw_St)} (C : gw_Cx p s m args c gb_Law_result 5 R_Law D cA) (hr : meth.sig.returnType = (some .int)) (hk : meth.locks = false) {R : Room} (hR : 7 ≤ R.frames ∧ 142 ≤ R.locals ∧ 1 ≤ R.cells ∧ 6 ≤ R.slots) (hfl : l.flags = pinnedFlags ++ [noTraceFlag]) (htb : c.exceptionTable.toList = List.map xw_e [(0, 10, 13, 25)]) (hZ : xt_Zs (gw_A hs z s.heap.size) s s.heap) (hN : xt_Nn s) (u : gw_St) (t0 : Nat) (x1 : Int32) (x2 : Int32) (t3 : Nat) (o_t0 : gw_ok z t0 0) (o_t3 : gw_ok z t3 11) {H : Heap} {locs : List Loc} {ls : Array Slot} (hW : gw_Wx D cA hs z s u H locs) (hl : lv_has ls 5 [(0, .ref (hs t0)), (1, .int x1), (2, .int x2), (3, .ref (hs t3))]) (h : gf_Law_result_b0 F z   u t0 x1 x2 t3 = some r0) : gw_Gw p l e R s m args below meth c D cA hs z r0 H locs ls 0 [] := by
  obtain ⟨hx, hb, hml, hown, hts, hK⟩ := id C
  unfold gf_Law_result_b0 at h
  refine lv_aload_n hx hb gd_Law_result_0 rfl (lv_at hl 3 rfl) ?_
  refine lv_iconst (v := 0) hx hb gd_Law_result_1 (by decide) ?_
  refine lv_aload_n hx hb gd_Law_result_2 rfl (lv_at hl 0 rfl) ?_
  refine lv_iload_n hx hb gd_Law_result_3 rfl (lv_at hl 1 rfl) ?_
  refine lv_iload_n hx hb gd_Law_result_4 rfl (lv_at hl 2 rfl) ?_
  rcases gf_ch_ok h with ⟨k4, u1, d2, h⟩ | ⟨a3, u1, d2, h⟩
  · by_cases c5 : k4 = 3
    · subst c5
      have h := gf_t rfl h
      obtain rfl := Option.some.inj h
      refine xt_catch (K := R_Desk) (As := [.int x1, .int x2]) (rest := [.int (0 : Int32), .ref (hs t3)]) C hW (fun _ h => Or.inr h) hZ hl.1 gm_Desk_result (gt_Desk_result l hfl F o_t0 d2 _) gk_947 gk_948 gk_949 o_t0 (by decide) rfl rfl rfl ⟨(Nat.le_trans (m := 7) (Nat.le_of_ble_eq_true rfl) hR.1), (Nat.le_trans (m := 142) (Nat.le_of_ble_eq_true rfl) hR.2.1)⟩ ⟨hR.2.2.1, hR.2.2.2⟩ rfl rfl (Nat.le_of_ble_eq_true rfl) gd_Law_result_5 (w := xw_e (0, 10, 13, 25)) (pre := []) (more := []) htb xw_n (by decide) (by decide) gk_880 (fun x H locs hW => ?_)
      refine W.widen (k := 1) (n := 6) (by decide) (by decide) ?_
      refine lv_astore (lv' := [(4, .ref x)]) hx hb gd_Law_result_13 (lv_sub hl [] rfl) (by decide) rfl (fun ls hl => ?_)
      refine lv_iconst (v := 1) hx hb gd_Law_result_15 (by decide) ?_
      exact gw_iretW C hW hr hk gd_Law_result_16
    have h := gf_f c5 h
    cases h
  refine gw_callVi (K := R_Desk) (As := [.int x1, .int x2]) (rest := [.int (0 : Int32), .ref (hs t3)]) C hW (fun _ h => Or.inr h) hl.1 gm_Desk_result (gc_Desk_result l hfl F o_t0 d2 _) gk_947 gk_948 gk_949 o_t0 (by decide) rfl rfl rfl ⟨(Nat.le_trans (m := 7) (Nat.le_of_ble_eq_true rfl) hR.1), (Nat.le_trans (m := 142) (Nat.le_of_ble_eq_true rfl) hR.2.1)⟩ ⟨Nat.zero_le _, Nat.zero_le _⟩ rfl rfl (Nat.le_of_ble_eq_true rfl) gd_Law_result_5 (fun H locs hW => ?_)
  refine lv_i2l hx hb gd_Law_result_8 rfl ?_
  obtain ⟨g6, h⟩ := gf_if_ok h
  refine gw_last C hW o_t3 g6 gd_Law_result_9 (fun u7 H locs e8 hW => ?_)
  have h := gf_nm_ok e8 h
  refine lv_goto (tgt := 17) hx hb gd_Law_result_10 (by decide) ?_
  refine lv_iconst (v := 0) hx hb gd_Law_result_17 (by decide) ?_
  obtain rfl := Option.some.inj h
  refine W.widen (k := 1) (n := 6) (by decide) (by decide) ?_
  exact gw_iretW C hW hr hk gd_Law_result_18

set_option maxRecDepth 20000 in
theorem gc_Law_result (l : Launch) (hfl : l.flags = pinnedFlags ++ [noTraceFlag]) {D : va_G} {cA : Nat → ClassId} {hs : Nat → Nat} {z : gw_Sh} (F : Nat) {u : gw_St} {r0 : Int32 × gw_St} {t0 : Nat} {x1 : Int32} {x2 : Int32} {t3 : Nat} (o_t0 : gw_ok z t0 0) (o_t3 : gw_ok z t3 11) (h : gf_Law_result F z u t0 x1 x2 t3 = some r0) (sz : Nat) : gw_Mw l gy_Law_result gb_Law_result 5 (some .int) [(0, 10, 13, 25)] (xt_rm 7 142) [.ref (hs t0), .int x1, .int x2, .ref (hs t3)] D cA hs z u sz r0 := by
  refine gw_enterW (by decide) (Nat.le_of_ble_eq_true rfl) ?_
  intro p e s m below meth c ls hsz C hW hr hk htb hZ hN hl
  subst hsz
  exact gx_Law_result_b0 F C hr hk (xt_rm_ok 7 142) hfl htb hZ hN u t0 x1 x2 t3 o_t0 o_t3 hW (lv_sub hl [0, 1, 2, 3] rfl) h
