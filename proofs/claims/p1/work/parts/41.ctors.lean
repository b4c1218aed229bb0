theorem df_Desk : ∀ k, k < 9 → defaultValue (tf_Desk k) = gw_dv (gt_ty 0 k) := by
  intro k hk
  rcases (show k = 0 ∨ k = 1 ∨ k = 2 ∨ k = 3 ∨ k = 4 ∨ k = 5 ∨ k = 6 ∨ k = 7 ∨ k = 8 by omega) with rfl | rfl | rfl | rfl | rfl | rfl | rfl | rfl | rfl <;> rfl
theorem df_Trains : ∀ k, k < 17 → defaultValue (tf_Trains k) = gw_dv (gt_ty 1 k) := by
  intro k hk
  rcases (show k = 0 ∨ k = 1 ∨ k = 2 ∨ k = 3 ∨ k = 4 ∨ k = 5 ∨ k = 6 ∨ k = 7 ∨ k = 8 ∨ k = 9 ∨ k = 10 ∨ k = 11 ∨ k = 12 ∨ k = 13 ∨ k = 14 ∨ k = 15 ∨ k = 16 by omega) with rfl | rfl | rfl | rfl | rfl | rfl | rfl | rfl | rfl | rfl | rfl | rfl | rfl | rfl | rfl | rfl | rfl <;> rfl
theorem df_Works : ∀ k, k < 5 → defaultValue (tf_Works k) = gw_dv (gt_ty 2 k) := by
  intro k hk
  rcases (show k = 0 ∨ k = 1 ∨ k = 2 ∨ k = 3 ∨ k = 4 by omega) with rfl | rfl | rfl | rfl | rfl <;> rfl
theorem df_Speeds : ∀ k, k < 2 → defaultValue (tf_Speeds k) = gw_dv (gt_ty 3 k) := by
  intro k hk
  rcases (show k = 0 ∨ k = 1 by omega) with rfl | rfl <;> rfl
theorem df_Equations : ∀ k, k < 17 → defaultValue (tf_Equations k) = gw_dv (gt_ty 4 k) := by
  intro k hk
  rcases (show k = 0 ∨ k = 1 ∨ k = 2 ∨ k = 3 ∨ k = 4 ∨ k = 5 ∨ k = 6 ∨ k = 7 ∨ k = 8 ∨ k = 9 ∨ k = 10 ∨ k = 11 ∨ k = 12 ∨ k = 13 ∨ k = 14 ∨ k = 15 ∨ k = 16 by omega) with rfl | rfl | rfl | rfl | rfl | rfl | rfl | rfl | rfl | rfl | rfl | rfl | rfl | rfl | rfl | rfl | rfl <;> rfl
theorem df_Hands : ∀ k, k < 5 → defaultValue (tf_Hands k) = gw_dv (gt_ty 5 k) := by
  intro k hk
  rcases (show k = 0 ∨ k = 1 ∨ k = 2 ∨ k = 3 ∨ k = 4 by omega) with rfl | rfl | rfl | rfl | rfl <;> rfl
theorem df_Fraction : ∀ k, k < 2 → defaultValue (tf_Fraction k) = gw_dv (gt_ty 6 k) := by
  intro k hk
  rcases (show k = 0 ∨ k = 1 by omega) with rfl | rfl <;> rfl
theorem df_Calculator : ∀ k, k < 6 → defaultValue (tf_Calculator k) = gw_dv (gt_ty 7 k) := by
  intro k hk
  rcases (show k = 0 ∨ k = 1 ∨ k = 2 ∨ k = 3 ∨ k = 4 ∨ k = 5 by omega) with rfl | rfl | rfl | rfl | rfl | rfl <;> rfl
theorem df_Whole : ∀ k, k < 3 → defaultValue (tf_Whole k) = gw_dv (gt_ty 8 k) := by
  intro k hk
  rcases (show k = 0 ∨ k = 1 ∨ k = 2 by omega) with rfl | rfl | rfl <;> rfl
theorem df_Model : ∀ k, k < 49 → defaultValue (tf_Model k) = gw_dv (gt_ty 9 k) := by
  intro k hk
  rcases (show k = 0 ∨ k = 1 ∨ k = 2 ∨ k = 3 ∨ k = 4 ∨ k = 5 ∨ k = 6 ∨ k = 7 ∨ k = 8 ∨ k = 9 ∨ k = 10 ∨ k = 11 ∨ k = 12 ∨ k = 13 ∨ k = 14 ∨ k = 15 ∨ k = 16 ∨ k = 17 ∨ k = 18 ∨ k = 19 ∨ k = 20 ∨ k = 21 ∨ k = 22 ∨ k = 23 ∨ k = 24 ∨ k = 25 ∨ k = 26 ∨ k = 27 ∨ k = 28 ∨ k = 29 ∨ k = 30 ∨ k = 31 ∨ k = 32 ∨ k = 33 ∨ k = 34 ∨ k = 35 ∨ k = 36 ∨ k = 37 ∨ k = 38 ∨ k = 39 ∨ k = 40 ∨ k = 41 ∨ k = 42 ∨ k = 43 ∨ k = 44 ∨ k = 45 ∨ k = 46 ∨ k = 47 ∨ k = 48 by omega) with rfl | rfl | rfl | rfl | rfl | rfl | rfl | rfl | rfl | rfl | rfl | rfl | rfl | rfl | rfl | rfl | rfl | rfl | rfl | rfl | rfl | rfl | rfl | rfl | rfl | rfl | rfl | rfl | rfl | rfl | rfl | rfl | rfl | rfl | rfl | rfl | rfl | rfl | rfl | rfl | rfl | rfl | rfl | rfl | rfl | rfl | rfl | rfl | rfl <;> rfl
-- GearDesk$Whole.<init>(I)V
theorem gk_789 : Cond.methodLink R_Whole 3 Lib.objectInit ∈ gt_T := gt_m1 (List.mem_of_getElem? (i := 142) rfl) rfl
theorem gk_790 : Cond.instanceMethod Lib.objectInit ∈ gt_T := gt_m1 (List.mem_of_getElem? (i := 37) rfl) rfl
theorem gk_791 : Cond.code Lib.objectInit ⟨#[0xb1]⟩ 1 none ∈ gt_T := gt_m1 (List.mem_of_getElem? (i := 38) rfl) rfl
theorem gk_792 : Cond.arrayClass .int ∈ gt_T := gt_m1 (List.mem_of_getElem? (i := 100) rfl) rfl
def gy_Whole_init : MethodName := ⟨R_Whole, "<init>", "(I)V"⟩
abbrev gb_Whole_init : ByteArray := prog_8_method_1_code
theorem gk_793 : Cond.code gy_Whole_init gb_Whole_init 2 none ∈ gt_T := gt_m1 (List.mem_of_getElem? (i := 141) rfl) rfl
theorem gm_Whole_init : gw_Mth gy_Whole_init gb_Whole_init 2 none 1 := ⟨gk_793, gk_16, ⟨by decide +kernel, by decide +kernel⟩, by decide +kernel⟩
theorem gd_Whole_init_0 : decode gb_Whole_init 0 = .ok (.aload_n 0, 1) := by decide +kernel
theorem gd_Whole_init_1 : decode gb_Whole_init 1 = .ok (.invokespecial 3, 3) := by decide +kernel
theorem gd_Whole_init_4 : decode gb_Whole_init 4 = .ok (.aload_n 0, 1) := by decide +kernel
theorem gd_Whole_init_5 : decode gb_Whole_init 5 = .ok (.iload_n 1, 1) := by decide +kernel
theorem gd_Whole_init_6 : decode gb_Whole_init 6 = .ok (.newarray .int, 2) := by decide +kernel
theorem gd_Whole_init_8 : decode gb_Whole_init 8 = .ok (.putfield 9, 3) := by decide +kernel
theorem gd_Whole_init_11 : decode gb_Whole_init 11 = .ok (.return_, 1) := by decide +kernel
def gf_Whole_init_b0 (F : Nat) (z : gw_Sh)  (u : gw_St) (t0 : Nat) (x1 : Int32) : Option (gw_Sh × gw_St) :=
  if (x1 < 0 ∨ 60000000 < (x1).toNatClampNeg) then none else gf_nm (gw_nz z 10 (x1).toNatClampNeg) fun z1 => gf_nm (gw_zr u z.1) fun u2 => gf_nm (gw_wr u2 t0 0 (z.1 + 1)) fun u7 => some (z1, u7)
def gf_Whole_init (F : Nat) (z : gw_Sh) (u : gw_St) (t0 : Nat) (x1 : Int32) : Option (gw_Sh × gw_St) := gf_Whole_init_b0 F z  u t0 x1
set_option maxHeartbeats 4000000 in
set_option maxRecDepth 20000 in
theorem gx_Whole_init_b0 {p : Program} {l : Launch} {e : Env} {s : State} {m : MethodId} {args : Array Value} {below : List Frame} {meth : Method} {c : Code} {D : va_G} {cA : Nat → ClassId} {hs : Nat → Nat} {z z0 : gw_Sh} {R : Room} (F : Nat) {r0 : (gw_Sh × gw_St)} (C : gw_Cx p s m args c gb_Whole_init 2 R_Whole D cA) (hr : meth.sig.returnType = none) (hk : meth.locks = false) (hin : meth.name = "<init>") (hAO : va_AO R_Fraction s) (hh : ∀ j, hs (z0.1 + j) = s.heap.size + j) (hz : ∀ p d, gw_ok z0 p d → gw_ok z p d) (hzc : z.1 = z0.1 + 0) (u : gw_St) (t0 : Nat) (x1 : Int32) (o_t0 : gw_ok z t0 8)  (hR : 1 ≤ R.frames ∧ 64 ≤ R.locals ∧ 1 ≤ R.cells ∧ x1.toNatClampNeg ≤ R.slots) {H : Heap} {locs : List Loc} {ls : Array Slot} (hW : gw_Wd D cA hs z (gw_A hs z0 s.heap.size) s.heap u H locs) (hl : lv_has ls 2 [(0, .ref (hs t0)), (1, .int x1)]) (h : gf_Whole_init_b0 F z   u t0 x1 = some r0) : gw_Gc p l e R s m args below meth c D cA hs z0 r0 1 x1.toNatClampNeg H locs 0 0 ls 0 [] := by
  obtain ⟨hx, hb, hml, hown, hts, hK⟩ := id C
  unfold gf_Whole_init_b0 at h
  refine lv_aload_n hx hb gd_Whole_init_0 rfl (lv_at hl 0 rfl) ?_
  refine W.objInit hx hb hown (hts _ gk_789) (hts _ gk_790) (hts _ gk_791) rfl (by rw [hml]; exact hl.1) rfl gd_Whole_init_1 (Nat.le_trans (m := 1) (Nat.le_of_ble_eq_true rfl) hR.1) (Nat.le_trans (m := 64) (Nat.le_of_ble_eq_true rfl) hR.2.1) ?_
  refine W.eq (g2 := F0 m 4 ls []) rfl ?_
  refine lv_aload_n hx hb gd_Whole_init_4 rfl (lv_at hl 0 rfl) ?_
  refine lv_iload_n hx hb gd_Whole_init_5 rfl (lv_at hl 1 rfl) ?_
  obtain ⟨g6, h⟩ := gf_if_ok h
  refine gw_frW hW hh hzc (fun hF => ?_)
  refine gw_newi C hW (fun _ h => Or.inr h) hF gk_792 g6 (Nat.le_trans (m := 1) (by omega) hR.2.2.1) (Nat.le_trans (m := x1.toNatClampNeg) (by omega) hR.2.2.2) gd_Whole_init_6 (fun z1 u2 H e3 e4 hW hF o5 hz9 => ?_)
  have h := gf_nm_ok e3 h
  have h := gf_nm_ok e4 h
  have o_t0 := hz9 _ _ o_t0
  have hz := fun p d h => hz9 p d (hz p d h)
  refine W.widen (k := 1) (n := x1.toNatClampNeg) (by omega) (by omega) ?_
  have hzc : z1.1 = z0.1 + 1 := gw_hzc (b := z.1) (c := 1) (by rw [e3]; rfl) hzc (by decide)
  refine gw_putF (k := 0) (ty := 10) (ref := R_Whole) (fty := .array .int) C hW o_t0 o5 (by decide) rfl gi_Whole rfl (by decide) rfl rfl gk_15 tf_Whole tf_Whole_ok nm_Whole rfl hin rfl rfl (fun _ => rfl) (fun _ => rfl) gd_Whole_init_8 (fun u7 H locs e8 hW => ?_)
  have h := gf_nm_ok e8 h
  obtain rfl := Option.some.inj h
  refine W.widen (k := 1) (n := x1.toNatClampNeg) (by omega) (by omega) ?_
  exact gw_vretC C hW hzc hz hr hk gd_Whole_init_11

set_option maxRecDepth 20000 in
theorem gc_Whole_init (l : Launch) {D : va_G} {cA : Nat → ClassId} {hs : Nat → Nat} {z : gw_Sh} (F : Nat) {u : gw_St} {r0 : gw_Sh × gw_St} {t0 : Nat} {x1 : Int32} (o_t0 : gw_ok z t0 8) (h : gf_Whole_init F z u t0 x1 = some r0) (sz : Nat) (hh : ∀ j, hs (z.1 + j) = sz + j) : gw_Mc l gy_Whole_init gb_Whole_init 2 (gw_rc 1 64 1 x1.toNatClampNeg) [.ref (hs t0), .int x1] D cA hs z u sz 1 x1.toNatClampNeg r0 := by
  refine gw_enterC (by decide) (Nat.le_of_ble_eq_true rfl) hh ?_
  intro p e s m below meth c ls hsz C hW hh hAO hr hk hin hl
  subst hsz
  exact gx_Whole_init_b0 F C hr hk hin hAO hh (fun _ _ h => h) rfl u t0 x1 o_t0 (gw_rc_ok 1 64 1 x1.toNatClampNeg) hW (lv_sub hl [0, 1] rfl) h
-- GearDesk$Fraction.<init>(I)V
theorem gk_794 : Cond.methodLink R_Fraction 3 Lib.objectInit ∈ gt_T := gt_m1 (List.mem_of_getElem? (i := 197) rfl) rfl
theorem gk_795 : Cond.classLink R_Fraction 9 R_Whole ∈ gt_T := gt_m1 (List.mem_of_getElem? (i := 198) rfl) rfl
theorem gk_796 : Cond.instantiable R_Whole 3 ∈ gt_T := gt_m1 (List.mem_of_getElem? (i := 138) rfl) rfl
theorem gk_797 : Cond.methodLink R_Fraction 11 gy_Whole_init ∈ gt_T := gt_m1 (List.mem_of_getElem? (i := 199) rfl) rfl
theorem gk_798 : Cond.instanceMethod gy_Whole_init ∈ gt_T := gt_m1 (List.mem_of_getElem? (i := 140) rfl) rfl
def gy_Fraction_init : MethodName := ⟨R_Fraction, "<init>", "(I)V"⟩
abbrev gb_Fraction_init : ByteArray := prog_4_method_1_code
theorem gk_799 : Cond.code gy_Fraction_init gb_Fraction_init 2 none ∈ gt_T := gt_m1 (List.mem_of_getElem? (i := 196) rfl) rfl
theorem gm_Fraction_init : gw_Mth gy_Fraction_init gb_Fraction_init 2 none 1 := ⟨gk_799, gk_59, ⟨by decide +kernel, by decide +kernel⟩, by decide +kernel⟩
theorem gd_Fraction_init_0 : decode gb_Fraction_init 0 = .ok (.aload_n 0, 1) := by decide +kernel
theorem gd_Fraction_init_1 : decode gb_Fraction_init 1 = .ok (.invokespecial 3, 3) := by decide +kernel
theorem gd_Fraction_init_4 : decode gb_Fraction_init 4 = .ok (.aload_n 0, 1) := by decide +kernel
theorem gd_Fraction_init_5 : decode gb_Fraction_init 5 = .ok (.new 9, 3) := by decide +kernel
theorem gd_Fraction_init_8 : decode gb_Fraction_init 8 = .ok (.dup, 1) := by decide +kernel
theorem gd_Fraction_init_9 : decode gb_Fraction_init 9 = .ok (.iload_n 1, 1) := by decide +kernel
theorem gd_Fraction_init_10 : decode gb_Fraction_init 10 = .ok (.invokespecial 11, 3) := by decide +kernel
theorem gd_Fraction_init_13 : decode gb_Fraction_init 13 = .ok (.putfield 14, 3) := by decide +kernel
theorem gd_Fraction_init_16 : decode gb_Fraction_init 16 = .ok (.aload_n 0, 1) := by decide +kernel
theorem gd_Fraction_init_17 : decode gb_Fraction_init 17 = .ok (.new 9, 3) := by decide +kernel
theorem gd_Fraction_init_20 : decode gb_Fraction_init 20 = .ok (.dup, 1) := by decide +kernel
theorem gd_Fraction_init_21 : decode gb_Fraction_init 21 = .ok (.iload_n 1, 1) := by decide +kernel
theorem gd_Fraction_init_22 : decode gb_Fraction_init 22 = .ok (.invokespecial 11, 3) := by decide +kernel
theorem gd_Fraction_init_25 : decode gb_Fraction_init 25 = .ok (.putfield 20, 3) := by decide +kernel
theorem gd_Fraction_init_28 : decode gb_Fraction_init 28 = .ok (.return_, 1) := by decide +kernel
def gf_Fraction_init_b0 (F : Nat) (z : gw_Sh)  (u : gw_St) (t0 : Nat) (x1 : Int32) : Option (gw_Sh × gw_St) :=
  gf_nm (gw_nz z 8 0) fun z1 => gf_nm (gw_zr u z.1) fun u2 => gf_cz (gf_Whole_init F z1 u2 z.1 x1) fun z6 u7 => gf_nm (gw_wr u7 t0 0 (z.1 + 1)) fun u9 => gf_nm (gw_nz z6 8 0) fun z11 => gf_nm (gw_zr u9 z6.1) fun u12 => gf_cz (gf_Whole_init F z11 u12 z6.1 x1) fun z16 u17 => gf_nm (gw_wr u17 t0 1 (z6.1 + 1)) fun u19 => some (z16, u19)
def gf_Fraction_init (F : Nat) (z : gw_Sh) (u : gw_St) (t0 : Nat) (x1 : Int32) : Option (gw_Sh × gw_St) := gf_Fraction_init_b0 F z  u t0 x1
set_option maxHeartbeats 4000000 in
set_option maxRecDepth 20000 in
theorem gx_Fraction_init_b0 {p : Program} {l : Launch} {e : Env} {s : State} {m : MethodId} {args : Array Value} {below : List Frame} {meth : Method} {c : Code} {D : va_G} {cA : Nat → ClassId} {hs : Nat → Nat} {z z0 : gw_Sh} {R : Room} (F : Nat) {r0 : (gw_Sh × gw_St)} (C : gw_Cx p s m args c gb_Fraction_init 2 R_Fraction D cA) (hr : meth.sig.returnType = none) (hk : meth.locks = false) (hin : meth.name = "<init>") (hAO : va_AO R_Fraction s) (hh : ∀ j, hs (z0.1 + j) = s.heap.size + j) (hz : ∀ p d, gw_ok z0 p d → gw_ok z p d) (hzc : z.1 = z0.1 + 0) (u : gw_St) (t0 : Nat) (x1 : Int32) (o_t0 : gw_ok z t0 6)  (hR : 2 ≤ R.frames ∧ 85 ≤ R.locals ∧ 4 ≤ R.cells ∧ (6 + 2 * x1.toNatClampNeg) ≤ R.slots) {H : Heap} {locs : List Loc} {ls : Array Slot} (hW : gw_Wd D cA hs z (gw_A hs z0 s.heap.size) s.heap u H locs) (hl : lv_has ls 2 [(0, .ref (hs t0)), (1, .int x1)]) (h : gf_Fraction_init_b0 F z   u t0 x1 = some r0) : gw_Gc p l e R s m args below meth c D cA hs z0 r0 4 (6 + 2 * x1.toNatClampNeg) H locs 0 0 ls 0 [] := by
  obtain ⟨hx, hb, hml, hown, hts, hK⟩ := id C
  unfold gf_Fraction_init_b0 at h
  refine lv_aload_n hx hb gd_Fraction_init_0 rfl (lv_at hl 0 rfl) ?_
  refine W.objInit hx hb hown (hts _ gk_794) (hts _ gk_790) (hts _ gk_791) rfl (by rw [hml]; exact hl.1) rfl gd_Fraction_init_1 (Nat.le_trans (m := 2) (Nat.le_of_ble_eq_true rfl) hR.1) (Nat.le_trans (m := 85) (Nat.le_of_ble_eq_true rfl) hR.2.1) ?_
  refine W.eq (g2 := F0 m 4 ls []) rfl ?_
  refine lv_aload_n hx hb gd_Fraction_init_4 rfl (lv_at hl 0 rfl) ?_
  refine gw_frW hW hh hzc (fun hF => ?_)
  refine gw_new (ci := 8) C hW (fun _ h => Or.inr h) hF (by decide) rfl gi_Whole rfl tf_Whole tf_Whole_ok df_Whole gk_795 gk_796 gk_16 (Nat.le_trans (m := 4) (by omega) hR.2.2.1) (Nat.le_trans (m := (6 + 2 * x1.toNatClampNeg)) (by omega) hR.2.2.2) gd_Fraction_init_5 (fun z1 u2 H e3 e4 hW hF o5 hz9 => ?_)
  have h := gf_nm_ok e3 h
  have h := gf_nm_ok e4 h
  have o_t0 := hz9 _ _ o_t0
  have hz := fun p d h => hz9 p d (hz p d h)
  refine W.widen (k := 1) (n := 3) (by omega) (by omega) ?_
  have hzc : z1.1 = z0.1 + 1 := gw_hzc (b := z.1) (c := 1) (by rw [e3]; rfl) hzc (by decide)
  refine lv_dup hx hb gd_Fraction_init_8 rfl ?_
  refine lv_iload_n hx hb gd_Fraction_init_9 rfl (lv_at hl 1 rfl) ?_
  obtain ⟨z6, u7, d8, h⟩ := gf_cz_ok h
  refine gw_frW hW hh hzc (fun hF => ?_)
  refine gw_callI (As := [.int x1]) (rest := [.ref (hs z.1), .ref (hs t0)]) C hAO hW (fun _ h => Or.inr h) hl.1 gm_Whole_init (gc_Whole_init l F o5 d8 _ hF) gk_797 gk_798 rfl rfl rfl ⟨(Nat.le_trans (m := 2) (Nat.le_of_ble_eq_true rfl) hR.1), (Nat.le_trans (m := 85) (Nat.le_of_ble_eq_true rfl) hR.2.1)⟩ ⟨(Nat.le_trans (m := 4) (by omega) hR.2.2.1), (Nat.le_trans (m := (6 + 2 * x1.toNatClampNeg)) (by omega) hR.2.2.2)⟩ rfl rfl (Nat.le_of_ble_eq_true rfl) gd_Fraction_init_10 (fun H locs hW hc9 hz9 => ?_)
  have o_t0 := hz9 _ _ o_t0
  have o5 := hz9 _ _ o5
  have hz := fun p d h => hz9 p d (hz p d h)
  refine W.widen (k := 2) (n := 3 + x1.toNatClampNeg) (by omega) (by omega) ?_
  have hzc : z6.1 = z0.1 + 2 := gw_hzc (c := 1) hc9 hzc (by decide)
  refine gw_putF (k := 0) (ty := 8) (ref := R_Fraction) (fty := .object "GearDesk$Whole") C hW o_t0 o5 (by decide) rfl gi_Fraction rfl (by decide) rfl rfl gk_54 tf_Fraction tf_Fraction_ok nm_Fraction rfl hin rfl rfl (fun _ => rfl) (fun _ => rfl) gd_Fraction_init_13 (fun u9 H locs e10 hW => ?_)
  have h := gf_nm_ok e10 h
  refine lv_aload_n hx hb gd_Fraction_init_16 rfl (lv_at hl 0 rfl) ?_
  refine gw_frW hW hh hzc (fun hF => ?_)
  refine gw_new (ci := 8) C hW (fun _ h => Or.inr h) hF (by decide) rfl gi_Whole rfl tf_Whole tf_Whole_ok df_Whole gk_795 gk_796 gk_16 (Nat.le_trans (m := 4) (by omega) hR.2.2.1) (Nat.le_trans (m := (6 + 2 * x1.toNatClampNeg)) (by omega) hR.2.2.2) gd_Fraction_init_17 (fun z11 u12 H e13 e14 hW hF o15 hz9 => ?_)
  have h := gf_nm_ok e13 h
  have h := gf_nm_ok e14 h
  have o_t0 := hz9 _ _ o_t0
  have o5 := hz9 _ _ o5
  have hz := fun p d h => hz9 p d (hz p d h)
  refine W.widen (k := 3) (n := 3 + x1.toNatClampNeg + 3) (by omega) (by omega) ?_
  have hzc : z11.1 = z0.1 + 3 := gw_hzc (b := z6.1) (c := 1) (by rw [e13]; rfl) hzc (by decide)
  refine lv_dup hx hb gd_Fraction_init_20 rfl ?_
  refine lv_iload_n hx hb gd_Fraction_init_21 rfl (lv_at hl 1 rfl) ?_
  obtain ⟨z16, u17, d18, h⟩ := gf_cz_ok h
  refine gw_frW hW hh hzc (fun hF => ?_)
  refine gw_callI (As := [.int x1]) (rest := [.ref (hs z6.1), .ref (hs t0)]) C hAO hW (fun _ h => Or.inr h) hl.1 gm_Whole_init (gc_Whole_init l F o15 d18 _ hF) gk_797 gk_798 rfl rfl rfl ⟨(Nat.le_trans (m := 2) (Nat.le_of_ble_eq_true rfl) hR.1), (Nat.le_trans (m := 85) (Nat.le_of_ble_eq_true rfl) hR.2.1)⟩ ⟨(Nat.le_trans (m := 4) (by omega) hR.2.2.1), (Nat.le_trans (m := (6 + 2 * x1.toNatClampNeg)) (by omega) hR.2.2.2)⟩ rfl rfl (Nat.le_of_ble_eq_true rfl) gd_Fraction_init_22 (fun H locs hW hc9 hz9 => ?_)
  have o_t0 := hz9 _ _ o_t0
  have o5 := hz9 _ _ o5
  have o15 := hz9 _ _ o15
  have hz := fun p d h => hz9 p d (hz p d h)
  refine W.widen (k := 4) (n := 3 + x1.toNatClampNeg + 3 + x1.toNatClampNeg) (by omega) (by omega) ?_
  have hzc : z16.1 = z0.1 + 4 := gw_hzc (c := 1) hc9 hzc (by decide)
  refine gw_putF (k := 1) (ty := 8) (ref := R_Fraction) (fty := .object "GearDesk$Whole") C hW o_t0 o15 (by decide) rfl gi_Fraction rfl (by decide) rfl rfl gk_58 tf_Fraction tf_Fraction_ok nm_Fraction rfl hin rfl rfl (fun _ => rfl) (fun _ => rfl) gd_Fraction_init_25 (fun u19 H locs e20 hW => ?_)
  have h := gf_nm_ok e20 h
  obtain rfl := Option.some.inj h
  refine W.widen (k := 4) (n := (6 + 2 * x1.toNatClampNeg)) (by omega) (by omega) ?_
  exact gw_vretC C hW hzc hz hr hk gd_Fraction_init_28

set_option maxRecDepth 20000 in
theorem gc_Fraction_init (l : Launch) {D : va_G} {cA : Nat → ClassId} {hs : Nat → Nat} {z : gw_Sh} (F : Nat) {u : gw_St} {r0 : gw_Sh × gw_St} {t0 : Nat} {x1 : Int32} (o_t0 : gw_ok z t0 6) (h : gf_Fraction_init F z u t0 x1 = some r0) (sz : Nat) (hh : ∀ j, hs (z.1 + j) = sz + j) : gw_Mc l gy_Fraction_init gb_Fraction_init 2 (gw_rc 2 85 4 (6 + 2 * x1.toNatClampNeg)) [.ref (hs t0), .int x1] D cA hs z u sz 4 (6 + 2 * x1.toNatClampNeg) r0 := by
  refine gw_enterC (by decide) (Nat.le_of_ble_eq_true rfl) hh ?_
  intro p e s m below meth c ls hsz C hW hh hAO hr hk hin hl
  subst hsz
  exact gx_Fraction_init_b0 F C hr hk hin hAO hh (fun _ _ h => h) rfl u t0 x1 o_t0 (gw_rc_ok 2 85 4 (6 + 2 * x1.toNatClampNeg)) hW (lv_sub hl [0, 1] rfl) h
-- GearDesk$Calculator.<init>()V
theorem gk_800 : Cond.methodLink R_Calculator 1 Lib.objectInit ∈ gt_T := gt_m1 (List.mem_of_getElem? (i := 136) rfl) rfl
theorem gk_801 : Cond.classLink R_Calculator 7 R_Whole ∈ gt_T := gt_m1 (List.mem_of_getElem? (i := 137) rfl) rfl
theorem gk_802 : Cond.methodLink R_Calculator 11 gy_Whole_init ∈ gt_T := gt_m1 (List.mem_of_getElem? (i := 139) rfl) rfl
def gy_Calculator_init : MethodName := ⟨R_Calculator, "<init>", "()V"⟩
abbrev gb_Calculator_init : ByteArray := prog_2_method_1_code
theorem gk_803 : Cond.code gy_Calculator_init gb_Calculator_init 1 none ∈ gt_T := gt_m1 (List.mem_of_getElem? (i := 135) rfl) rfl
theorem gm_Calculator_init : gw_Mth gy_Calculator_init gb_Calculator_init 1 none 0 := ⟨gk_803, gk_66, ⟨by decide +kernel, by decide +kernel⟩, by decide +kernel⟩
theorem gd_Calculator_init_0 : decode gb_Calculator_init 0 = .ok (.aload_n 0, 1) := by decide +kernel
theorem gd_Calculator_init_1 : decode gb_Calculator_init 1 = .ok (.invokespecial 1, 3) := by decide +kernel
theorem gd_Calculator_init_4 : decode gb_Calculator_init 4 = .ok (.aload_n 0, 1) := by decide +kernel
theorem gd_Calculator_init_5 : decode gb_Calculator_init 5 = .ok (.new 7, 3) := by decide +kernel
theorem gd_Calculator_init_8 : decode gb_Calculator_init 8 = .ok (.dup, 1) := by decide +kernel
theorem gd_Calculator_init_9 : decode gb_Calculator_init 9 = .ok (.bipush 48, 2) := by decide +kernel
theorem gd_Calculator_init_11 : decode gb_Calculator_init 11 = .ok (.invokespecial 11, 3) := by decide +kernel
theorem gd_Calculator_init_14 : decode gb_Calculator_init 14 = .ok (.putfield 14, 3) := by decide +kernel
theorem gd_Calculator_init_17 : decode gb_Calculator_init 17 = .ok (.aload_n 0, 1) := by decide +kernel
theorem gd_Calculator_init_18 : decode gb_Calculator_init 18 = .ok (.new 7, 3) := by decide +kernel
theorem gd_Calculator_init_21 : decode gb_Calculator_init 21 = .ok (.dup, 1) := by decide +kernel
theorem gd_Calculator_init_22 : decode gb_Calculator_init 22 = .ok (.bipush 48, 2) := by decide +kernel
theorem gd_Calculator_init_24 : decode gb_Calculator_init 24 = .ok (.invokespecial 11, 3) := by decide +kernel
theorem gd_Calculator_init_27 : decode gb_Calculator_init 27 = .ok (.putfield 18, 3) := by decide +kernel
theorem gd_Calculator_init_30 : decode gb_Calculator_init 30 = .ok (.aload_n 0, 1) := by decide +kernel
theorem gd_Calculator_init_31 : decode gb_Calculator_init 31 = .ok (.new 7, 3) := by decide +kernel
theorem gd_Calculator_init_34 : decode gb_Calculator_init 34 = .ok (.dup, 1) := by decide +kernel
theorem gd_Calculator_init_35 : decode gb_Calculator_init 35 = .ok (.bipush 48, 2) := by decide +kernel
theorem gd_Calculator_init_37 : decode gb_Calculator_init 37 = .ok (.invokespecial 11, 3) := by decide +kernel
theorem gd_Calculator_init_40 : decode gb_Calculator_init 40 = .ok (.putfield 21, 3) := by decide +kernel
theorem gd_Calculator_init_43 : decode gb_Calculator_init 43 = .ok (.aload_n 0, 1) := by decide +kernel
theorem gd_Calculator_init_44 : decode gb_Calculator_init 44 = .ok (.new 7, 3) := by decide +kernel
theorem gd_Calculator_init_47 : decode gb_Calculator_init 47 = .ok (.dup, 1) := by decide +kernel
theorem gd_Calculator_init_48 : decode gb_Calculator_init 48 = .ok (.bipush 48, 2) := by decide +kernel
theorem gd_Calculator_init_50 : decode gb_Calculator_init 50 = .ok (.invokespecial 11, 3) := by decide +kernel
theorem gd_Calculator_init_53 : decode gb_Calculator_init 53 = .ok (.putfield 24, 3) := by decide +kernel
theorem gd_Calculator_init_56 : decode gb_Calculator_init 56 = .ok (.aload_n 0, 1) := by decide +kernel
theorem gd_Calculator_init_57 : decode gb_Calculator_init 57 = .ok (.new 7, 3) := by decide +kernel
theorem gd_Calculator_init_60 : decode gb_Calculator_init 60 = .ok (.dup, 1) := by decide +kernel
theorem gd_Calculator_init_61 : decode gb_Calculator_init 61 = .ok (.bipush 48, 2) := by decide +kernel
theorem gd_Calculator_init_63 : decode gb_Calculator_init 63 = .ok (.invokespecial 11, 3) := by decide +kernel
theorem gd_Calculator_init_66 : decode gb_Calculator_init 66 = .ok (.putfield 27, 3) := by decide +kernel
theorem gd_Calculator_init_69 : decode gb_Calculator_init 69 = .ok (.aload_n 0, 1) := by decide +kernel
theorem gd_Calculator_init_70 : decode gb_Calculator_init 70 = .ok (.new 7, 3) := by decide +kernel
theorem gd_Calculator_init_73 : decode gb_Calculator_init 73 = .ok (.dup, 1) := by decide +kernel
theorem gd_Calculator_init_74 : decode gb_Calculator_init 74 = .ok (.bipush 48, 2) := by decide +kernel
theorem gd_Calculator_init_76 : decode gb_Calculator_init 76 = .ok (.invokespecial 11, 3) := by decide +kernel
theorem gd_Calculator_init_79 : decode gb_Calculator_init 79 = .ok (.putfield 30, 3) := by decide +kernel
theorem gd_Calculator_init_82 : decode gb_Calculator_init 82 = .ok (.return_, 1) := by decide +kernel
def gf_Calculator_init_b0 (F : Nat) (z : gw_Sh)  (u : gw_St) (t0 : Nat) : Option (gw_Sh × gw_St) :=
  gf_nm (gw_nz z 8 0) fun z1 => gf_nm (gw_zr u z.1) fun u2 => gf_cz (gf_Whole_init F z1 u2 z.1 (48 : Int32)) fun z6 u7 => gf_nm (gw_wr u7 t0 0 (z.1 + 1)) fun u9 => gf_nm (gw_nz z6 8 0) fun z11 => gf_nm (gw_zr u9 z6.1) fun u12 => gf_cz (gf_Whole_init F z11 u12 z6.1 (48 : Int32)) fun z16 u17 => gf_nm (gw_wr u17 t0 1 (z6.1 + 1)) fun u19 => gf_nm (gw_nz z16 8 0) fun z21 => gf_nm (gw_zr u19 z16.1) fun u22 => gf_cz (gf_Whole_init F z21 u22 z16.1 (48 : Int32)) fun z26 u27 => gf_nm (gw_wr u27 t0 2 (z16.1 + 1)) fun u29 => gf_nm (gw_nz z26 8 0) fun z31 => gf_nm (gw_zr u29 z26.1) fun u32 => gf_cz (gf_Whole_init F z31 u32 z26.1 (48 : Int32)) fun z36 u37 => gf_nm (gw_wr u37 t0 3 (z26.1 + 1)) fun u39 => gf_nm (gw_nz z36 8 0) fun z41 => gf_nm (gw_zr u39 z36.1) fun u42 => gf_cz (gf_Whole_init F z41 u42 z36.1 (48 : Int32)) fun z46 u47 => gf_nm (gw_wr u47 t0 4 (z36.1 + 1)) fun u49 => gf_nm (gw_nz z46 8 0) fun z51 => gf_nm (gw_zr u49 z46.1) fun u52 => gf_cz (gf_Whole_init F z51 u52 z46.1 (48 : Int32)) fun z56 u57 => gf_nm (gw_wr u57 t0 5 (z46.1 + 1)) fun u59 => some (z56, u59)
def gf_Calculator_init (F : Nat) (z : gw_Sh) (u : gw_St) (t0 : Nat) : Option (gw_Sh × gw_St) := gf_Calculator_init_b0 F z  u t0
set_option maxHeartbeats 4000000 in
set_option maxRecDepth 20000 in
theorem gx_Calculator_init_b0 {p : Program} {l : Launch} {e : Env} {s : State} {m : MethodId} {args : Array Value} {below : List Frame} {meth : Method} {c : Code} {D : va_G} {cA : Nat → ClassId} {hs : Nat → Nat} {z z0 : gw_Sh} (F : Nat) {r0 : (gw_Sh × gw_St)} (C : gw_Cx p s m args c gb_Calculator_init 1 R_Calculator D cA) (hr : meth.sig.returnType = none) (hk : meth.locks = false) (hin : meth.name = "<init>") (hAO : va_AO R_Fraction s) {R : Room} (hR : 2 ≤ R.frames ∧ 85 ≤ R.locals ∧ 12 ≤ R.cells ∧ 306 ≤ R.slots) (hh : ∀ j, hs (z0.1 + j) = s.heap.size + j) (hz : ∀ p d, gw_ok z0 p d → gw_ok z p d) (hzc : z.1 = z0.1 + 0) (u : gw_St) (t0 : Nat) (o_t0 : gw_ok z t0 7) {H : Heap} {locs : List Loc} {ls : Array Slot} (hW : gw_Wd D cA hs z (gw_A hs z0 s.heap.size) s.heap u H locs) (hl : lv_has ls 1 [(0, .ref (hs t0))]) (h : gf_Calculator_init_b0 F z   u t0 = some r0) : gw_Gc p l e R s m args below meth c D cA hs z0 r0 12 306 H locs 0 0 ls 0 [] := by
  obtain ⟨hx, hb, hml, hown, hts, hK⟩ := id C
  unfold gf_Calculator_init_b0 at h
  refine lv_aload_n hx hb gd_Calculator_init_0 rfl (lv_at hl 0 rfl) ?_
  refine W.objInit hx hb hown (hts _ gk_800) (hts _ gk_790) (hts _ gk_791) rfl (by rw [hml]; exact hl.1) rfl gd_Calculator_init_1 (Nat.le_trans (m := 2) (Nat.le_of_ble_eq_true rfl) hR.1) (Nat.le_trans (m := 85) (Nat.le_of_ble_eq_true rfl) hR.2.1) ?_
  refine W.eq (g2 := F0 m 4 ls []) rfl ?_
  refine lv_aload_n hx hb gd_Calculator_init_4 rfl (lv_at hl 0 rfl) ?_
  refine gw_frW hW hh hzc (fun hF => ?_)
  refine gw_new (ci := 8) C hW (fun _ h => Or.inr h) hF (by decide) rfl gi_Whole rfl tf_Whole tf_Whole_ok df_Whole gk_801 gk_796 gk_16 (Nat.le_trans (m := 12) (by decide +kernel) hR.2.2.1) (Nat.le_trans (m := 306) (by decide +kernel) hR.2.2.2) gd_Calculator_init_5 (fun z1 u2 H e3 e4 hW hF o5 hz9 => ?_)
  have h := gf_nm_ok e3 h
  have h := gf_nm_ok e4 h
  have o_t0 := hz9 _ _ o_t0
  have hz := fun p d h => hz9 p d (hz p d h)
  refine W.widen (k := 1) (n := 3) (by decide +kernel) (by decide +kernel) ?_
  have hzc : z1.1 = z0.1 + 1 := gw_hzc (b := z.1) (c := 1) (by rw [e3]; rfl) hzc (by decide)
  refine lv_dup hx hb gd_Calculator_init_8 rfl ?_
  refine lv_bipush (v := 48) hx hb gd_Calculator_init_9 (by decide) ?_
  obtain ⟨z6, u7, d8, h⟩ := gf_cz_ok h
  refine gw_frW hW hh hzc (fun hF => ?_)
  refine gw_callI (As := [.int (48 : Int32)]) (rest := [.ref (hs z.1), .ref (hs t0)]) C hAO hW (fun _ h => Or.inr h) hl.1 gm_Whole_init (gc_Whole_init l F o5 d8 _ hF) gk_802 gk_798 rfl rfl rfl ⟨(Nat.le_trans (m := 2) (Nat.le_of_ble_eq_true rfl) hR.1), (Nat.le_trans (m := 85) (Nat.le_of_ble_eq_true rfl) hR.2.1)⟩ ⟨(Nat.le_trans (m := 12) (by decide +kernel) hR.2.2.1), (Nat.le_trans (m := 306) (by decide +kernel) hR.2.2.2)⟩ rfl rfl (Nat.le_of_ble_eq_true rfl) gd_Calculator_init_11 (fun H locs hW hc9 hz9 => ?_)
  have o_t0 := hz9 _ _ o_t0
  have o5 := hz9 _ _ o5
  have hz := fun p d h => hz9 p d (hz p d h)
  refine W.widen (k := 2) (n := 51) (by decide +kernel) (by decide +kernel) ?_
  have hzc : z6.1 = z0.1 + 2 := gw_hzc (c := 1) hc9 hzc (by decide)
  refine gw_putF (k := 0) (ty := 8) (ref := R_Calculator) (fty := .object "GearDesk$Whole") C hW o_t0 o5 (by decide) rfl gi_Calculator rfl (by decide) rfl rfl gk_69 tf_Calculator tf_Calculator_ok nm_Calculator rfl hin rfl rfl (fun _ => rfl) (fun _ => rfl) gd_Calculator_init_14 (fun u9 H locs e10 hW => ?_)
  have h := gf_nm_ok e10 h
  refine lv_aload_n hx hb gd_Calculator_init_17 rfl (lv_at hl 0 rfl) ?_
  refine gw_frW hW hh hzc (fun hF => ?_)
  refine gw_new (ci := 8) C hW (fun _ h => Or.inr h) hF (by decide) rfl gi_Whole rfl tf_Whole tf_Whole_ok df_Whole gk_801 gk_796 gk_16 (Nat.le_trans (m := 12) (by decide +kernel) hR.2.2.1) (Nat.le_trans (m := 306) (by decide +kernel) hR.2.2.2) gd_Calculator_init_18 (fun z11 u12 H e13 e14 hW hF o15 hz9 => ?_)
  have h := gf_nm_ok e13 h
  have h := gf_nm_ok e14 h
  have o_t0 := hz9 _ _ o_t0
  have o5 := hz9 _ _ o5
  have hz := fun p d h => hz9 p d (hz p d h)
  refine W.widen (k := 3) (n := 54) (by decide +kernel) (by decide +kernel) ?_
  have hzc : z11.1 = z0.1 + 3 := gw_hzc (b := z6.1) (c := 1) (by rw [e13]; rfl) hzc (by decide)
  refine lv_dup hx hb gd_Calculator_init_21 rfl ?_
  refine lv_bipush (v := 48) hx hb gd_Calculator_init_22 (by decide) ?_
  obtain ⟨z16, u17, d18, h⟩ := gf_cz_ok h
  refine gw_frW hW hh hzc (fun hF => ?_)
  refine gw_callI (As := [.int (48 : Int32)]) (rest := [.ref (hs z6.1), .ref (hs t0)]) C hAO hW (fun _ h => Or.inr h) hl.1 gm_Whole_init (gc_Whole_init l F o15 d18 _ hF) gk_802 gk_798 rfl rfl rfl ⟨(Nat.le_trans (m := 2) (Nat.le_of_ble_eq_true rfl) hR.1), (Nat.le_trans (m := 85) (Nat.le_of_ble_eq_true rfl) hR.2.1)⟩ ⟨(Nat.le_trans (m := 12) (by decide +kernel) hR.2.2.1), (Nat.le_trans (m := 306) (by decide +kernel) hR.2.2.2)⟩ rfl rfl (Nat.le_of_ble_eq_true rfl) gd_Calculator_init_24 (fun H locs hW hc9 hz9 => ?_)
  have o_t0 := hz9 _ _ o_t0
  have o5 := hz9 _ _ o5
  have o15 := hz9 _ _ o15
  have hz := fun p d h => hz9 p d (hz p d h)
  refine W.widen (k := 4) (n := 102) (by decide +kernel) (by decide +kernel) ?_
  have hzc : z16.1 = z0.1 + 4 := gw_hzc (c := 1) hc9 hzc (by decide)
  refine gw_putF (k := 1) (ty := 8) (ref := R_Calculator) (fty := .object "GearDesk$Whole") C hW o_t0 o15 (by decide) rfl gi_Calculator rfl (by decide) rfl rfl gk_73 tf_Calculator tf_Calculator_ok nm_Calculator rfl hin rfl rfl (fun _ => rfl) (fun _ => rfl) gd_Calculator_init_27 (fun u19 H locs e20 hW => ?_)
  have h := gf_nm_ok e20 h
  refine lv_aload_n hx hb gd_Calculator_init_30 rfl (lv_at hl 0 rfl) ?_
  refine gw_frW hW hh hzc (fun hF => ?_)
  refine gw_new (ci := 8) C hW (fun _ h => Or.inr h) hF (by decide) rfl gi_Whole rfl tf_Whole tf_Whole_ok df_Whole gk_801 gk_796 gk_16 (Nat.le_trans (m := 12) (by decide +kernel) hR.2.2.1) (Nat.le_trans (m := 306) (by decide +kernel) hR.2.2.2) gd_Calculator_init_31 (fun z21 u22 H e23 e24 hW hF o25 hz9 => ?_)
  have h := gf_nm_ok e23 h
  have h := gf_nm_ok e24 h
  have o_t0 := hz9 _ _ o_t0
  have o5 := hz9 _ _ o5
  have o15 := hz9 _ _ o15
  have hz := fun p d h => hz9 p d (hz p d h)
  refine W.widen (k := 5) (n := 105) (by decide +kernel) (by decide +kernel) ?_
  have hzc : z21.1 = z0.1 + 5 := gw_hzc (b := z16.1) (c := 1) (by rw [e23]; rfl) hzc (by decide)
  refine lv_dup hx hb gd_Calculator_init_34 rfl ?_
  refine lv_bipush (v := 48) hx hb gd_Calculator_init_35 (by decide) ?_
  obtain ⟨z26, u27, d28, h⟩ := gf_cz_ok h
  refine gw_frW hW hh hzc (fun hF => ?_)
  refine gw_callI (As := [.int (48 : Int32)]) (rest := [.ref (hs z16.1), .ref (hs t0)]) C hAO hW (fun _ h => Or.inr h) hl.1 gm_Whole_init (gc_Whole_init l F o25 d28 _ hF) gk_802 gk_798 rfl rfl rfl ⟨(Nat.le_trans (m := 2) (Nat.le_of_ble_eq_true rfl) hR.1), (Nat.le_trans (m := 85) (Nat.le_of_ble_eq_true rfl) hR.2.1)⟩ ⟨(Nat.le_trans (m := 12) (by decide +kernel) hR.2.2.1), (Nat.le_trans (m := 306) (by decide +kernel) hR.2.2.2)⟩ rfl rfl (Nat.le_of_ble_eq_true rfl) gd_Calculator_init_37 (fun H locs hW hc9 hz9 => ?_)
  have o_t0 := hz9 _ _ o_t0
  have o5 := hz9 _ _ o5
  have o15 := hz9 _ _ o15
  have o25 := hz9 _ _ o25
  have hz := fun p d h => hz9 p d (hz p d h)
  refine W.widen (k := 6) (n := 153) (by decide +kernel) (by decide +kernel) ?_
  have hzc : z26.1 = z0.1 + 6 := gw_hzc (c := 1) hc9 hzc (by decide)
  refine gw_putF (k := 2) (ty := 8) (ref := R_Calculator) (fty := .object "GearDesk$Whole") C hW o_t0 o25 (by decide) rfl gi_Calculator rfl (by decide) rfl rfl gk_81 tf_Calculator tf_Calculator_ok nm_Calculator rfl hin rfl rfl (fun _ => rfl) (fun _ => rfl) gd_Calculator_init_40 (fun u29 H locs e30 hW => ?_)
  have h := gf_nm_ok e30 h
  refine lv_aload_n hx hb gd_Calculator_init_43 rfl (lv_at hl 0 rfl) ?_
  refine gw_frW hW hh hzc (fun hF => ?_)
  refine gw_new (ci := 8) C hW (fun _ h => Or.inr h) hF (by decide) rfl gi_Whole rfl tf_Whole tf_Whole_ok df_Whole gk_801 gk_796 gk_16 (Nat.le_trans (m := 12) (by decide +kernel) hR.2.2.1) (Nat.le_trans (m := 306) (by decide +kernel) hR.2.2.2) gd_Calculator_init_44 (fun z31 u32 H e33 e34 hW hF o35 hz9 => ?_)
  have h := gf_nm_ok e33 h
  have h := gf_nm_ok e34 h
  have o_t0 := hz9 _ _ o_t0
  have o5 := hz9 _ _ o5
  have o15 := hz9 _ _ o15
  have o25 := hz9 _ _ o25
  have hz := fun p d h => hz9 p d (hz p d h)
  refine W.widen (k := 7) (n := 156) (by decide +kernel) (by decide +kernel) ?_
  have hzc : z31.1 = z0.1 + 7 := gw_hzc (b := z26.1) (c := 1) (by rw [e33]; rfl) hzc (by decide)
  refine lv_dup hx hb gd_Calculator_init_47 rfl ?_
  refine lv_bipush (v := 48) hx hb gd_Calculator_init_48 (by decide) ?_
  obtain ⟨z36, u37, d38, h⟩ := gf_cz_ok h
  refine gw_frW hW hh hzc (fun hF => ?_)
  refine gw_callI (As := [.int (48 : Int32)]) (rest := [.ref (hs z26.1), .ref (hs t0)]) C hAO hW (fun _ h => Or.inr h) hl.1 gm_Whole_init (gc_Whole_init l F o35 d38 _ hF) gk_802 gk_798 rfl rfl rfl ⟨(Nat.le_trans (m := 2) (Nat.le_of_ble_eq_true rfl) hR.1), (Nat.le_trans (m := 85) (Nat.le_of_ble_eq_true rfl) hR.2.1)⟩ ⟨(Nat.le_trans (m := 12) (by decide +kernel) hR.2.2.1), (Nat.le_trans (m := 306) (by decide +kernel) hR.2.2.2)⟩ rfl rfl (Nat.le_of_ble_eq_true rfl) gd_Calculator_init_50 (fun H locs hW hc9 hz9 => ?_)
  have o_t0 := hz9 _ _ o_t0
  have o5 := hz9 _ _ o5
  have o15 := hz9 _ _ o15
  have o25 := hz9 _ _ o25
  have o35 := hz9 _ _ o35
  have hz := fun p d h => hz9 p d (hz p d h)
  refine W.widen (k := 8) (n := 204) (by decide +kernel) (by decide +kernel) ?_
  have hzc : z36.1 = z0.1 + 8 := gw_hzc (c := 1) hc9 hzc (by decide)
  refine gw_putF (k := 3) (ty := 8) (ref := R_Calculator) (fty := .object "GearDesk$Whole") C hW o_t0 o35 (by decide) rfl gi_Calculator rfl (by decide) rfl rfl gk_92 tf_Calculator tf_Calculator_ok nm_Calculator rfl hin rfl rfl (fun _ => rfl) (fun _ => rfl) gd_Calculator_init_53 (fun u39 H locs e40 hW => ?_)
  have h := gf_nm_ok e40 h
  refine lv_aload_n hx hb gd_Calculator_init_56 rfl (lv_at hl 0 rfl) ?_
  refine gw_frW hW hh hzc (fun hF => ?_)
  refine gw_new (ci := 8) C hW (fun _ h => Or.inr h) hF (by decide) rfl gi_Whole rfl tf_Whole tf_Whole_ok df_Whole gk_801 gk_796 gk_16 (Nat.le_trans (m := 12) (by decide +kernel) hR.2.2.1) (Nat.le_trans (m := 306) (by decide +kernel) hR.2.2.2) gd_Calculator_init_57 (fun z41 u42 H e43 e44 hW hF o45 hz9 => ?_)
  have h := gf_nm_ok e43 h
  have h := gf_nm_ok e44 h
  have o_t0 := hz9 _ _ o_t0
  have o5 := hz9 _ _ o5
  have o15 := hz9 _ _ o15
  have o25 := hz9 _ _ o25
  have o35 := hz9 _ _ o35
  have hz := fun p d h => hz9 p d (hz p d h)
  refine W.widen (k := 9) (n := 207) (by decide +kernel) (by decide +kernel) ?_
  have hzc : z41.1 = z0.1 + 9 := gw_hzc (b := z36.1) (c := 1) (by rw [e43]; rfl) hzc (by decide)
  refine lv_dup hx hb gd_Calculator_init_60 rfl ?_
  refine lv_bipush (v := 48) hx hb gd_Calculator_init_61 (by decide) ?_
  obtain ⟨z46, u47, d48, h⟩ := gf_cz_ok h
  refine gw_frW hW hh hzc (fun hF => ?_)
  refine gw_callI (As := [.int (48 : Int32)]) (rest := [.ref (hs z36.1), .ref (hs t0)]) C hAO hW (fun _ h => Or.inr h) hl.1 gm_Whole_init (gc_Whole_init l F o45 d48 _ hF) gk_802 gk_798 rfl rfl rfl ⟨(Nat.le_trans (m := 2) (Nat.le_of_ble_eq_true rfl) hR.1), (Nat.le_trans (m := 85) (Nat.le_of_ble_eq_true rfl) hR.2.1)⟩ ⟨(Nat.le_trans (m := 12) (by decide +kernel) hR.2.2.1), (Nat.le_trans (m := 306) (by decide +kernel) hR.2.2.2)⟩ rfl rfl (Nat.le_of_ble_eq_true rfl) gd_Calculator_init_63 (fun H locs hW hc9 hz9 => ?_)
  have o_t0 := hz9 _ _ o_t0
  have o5 := hz9 _ _ o5
  have o15 := hz9 _ _ o15
  have o25 := hz9 _ _ o25
  have o35 := hz9 _ _ o35
  have o45 := hz9 _ _ o45
  have hz := fun p d h => hz9 p d (hz p d h)
  refine W.widen (k := 10) (n := 255) (by decide +kernel) (by decide +kernel) ?_
  have hzc : z46.1 = z0.1 + 10 := gw_hzc (c := 1) hc9 hzc (by decide)
  refine gw_putF (k := 4) (ty := 8) (ref := R_Calculator) (fty := .object "GearDesk$Whole") C hW o_t0 o45 (by decide) rfl gi_Calculator rfl (by decide) rfl rfl gk_96 tf_Calculator tf_Calculator_ok nm_Calculator rfl hin rfl rfl (fun _ => rfl) (fun _ => rfl) gd_Calculator_init_66 (fun u49 H locs e50 hW => ?_)
  have h := gf_nm_ok e50 h
  refine lv_aload_n hx hb gd_Calculator_init_69 rfl (lv_at hl 0 rfl) ?_
  refine gw_frW hW hh hzc (fun hF => ?_)
  refine gw_new (ci := 8) C hW (fun _ h => Or.inr h) hF (by decide) rfl gi_Whole rfl tf_Whole tf_Whole_ok df_Whole gk_801 gk_796 gk_16 (Nat.le_trans (m := 12) (by decide +kernel) hR.2.2.1) (Nat.le_trans (m := 306) (by decide +kernel) hR.2.2.2) gd_Calculator_init_70 (fun z51 u52 H e53 e54 hW hF o55 hz9 => ?_)
  have h := gf_nm_ok e53 h
  have h := gf_nm_ok e54 h
  have o_t0 := hz9 _ _ o_t0
  have o5 := hz9 _ _ o5
  have o15 := hz9 _ _ o15
  have o25 := hz9 _ _ o25
  have o35 := hz9 _ _ o35
  have o45 := hz9 _ _ o45
  have hz := fun p d h => hz9 p d (hz p d h)
  refine W.widen (k := 11) (n := 258) (by decide +kernel) (by decide +kernel) ?_
  have hzc : z51.1 = z0.1 + 11 := gw_hzc (b := z46.1) (c := 1) (by rw [e53]; rfl) hzc (by decide)
  refine lv_dup hx hb gd_Calculator_init_73 rfl ?_
  refine lv_bipush (v := 48) hx hb gd_Calculator_init_74 (by decide) ?_
  obtain ⟨z56, u57, d58, h⟩ := gf_cz_ok h
  refine gw_frW hW hh hzc (fun hF => ?_)
  refine gw_callI (As := [.int (48 : Int32)]) (rest := [.ref (hs z46.1), .ref (hs t0)]) C hAO hW (fun _ h => Or.inr h) hl.1 gm_Whole_init (gc_Whole_init l F o55 d58 _ hF) gk_802 gk_798 rfl rfl rfl ⟨(Nat.le_trans (m := 2) (Nat.le_of_ble_eq_true rfl) hR.1), (Nat.le_trans (m := 85) (Nat.le_of_ble_eq_true rfl) hR.2.1)⟩ ⟨(Nat.le_trans (m := 12) (by decide +kernel) hR.2.2.1), (Nat.le_trans (m := 306) (by decide +kernel) hR.2.2.2)⟩ rfl rfl (Nat.le_of_ble_eq_true rfl) gd_Calculator_init_76 (fun H locs hW hc9 hz9 => ?_)
  have o_t0 := hz9 _ _ o_t0
  have o5 := hz9 _ _ o5
  have o15 := hz9 _ _ o15
  have o25 := hz9 _ _ o25
  have o35 := hz9 _ _ o35
  have o45 := hz9 _ _ o45
  have o55 := hz9 _ _ o55
  have hz := fun p d h => hz9 p d (hz p d h)
  refine W.widen (k := 12) (n := 306) (by decide +kernel) (by decide +kernel) ?_
  have hzc : z56.1 = z0.1 + 12 := gw_hzc (c := 1) hc9 hzc (by decide)
  refine gw_putF (k := 5) (ty := 8) (ref := R_Calculator) (fty := .object "GearDesk$Whole") C hW o_t0 o55 (by decide) rfl gi_Calculator rfl (by decide) rfl rfl gk_103 tf_Calculator tf_Calculator_ok nm_Calculator rfl hin rfl rfl (fun _ => rfl) (fun _ => rfl) gd_Calculator_init_79 (fun u59 H locs e60 hW => ?_)
  have h := gf_nm_ok e60 h
  obtain rfl := Option.some.inj h
  exact gw_vretC C hW hzc hz hr hk gd_Calculator_init_82

set_option maxRecDepth 20000 in
theorem gc_Calculator_init (l : Launch) {D : va_G} {cA : Nat → ClassId} {hs : Nat → Nat} {z : gw_Sh} (F : Nat) {u : gw_St} {r0 : gw_Sh × gw_St} {t0 : Nat} (o_t0 : gw_ok z t0 7) (h : gf_Calculator_init F z u t0 = some r0) (sz : Nat) (hh : ∀ j, hs (z.1 + j) = sz + j) : gw_Mc l gy_Calculator_init gb_Calculator_init 1 (gw_rc 2 85 12 306) [.ref (hs t0)] D cA hs z u sz 12 306 r0 := by
  refine gw_enterC (by decide) (Nat.le_of_ble_eq_true rfl) hh ?_
  intro p e s m below meth c ls hsz C hW hh hAO hr hk hin hl
  subst hsz
  exact gx_Calculator_init_b0 F C hr hk hin hAO (gw_rc_ok 2 85 12 306) hh (fun _ _ h => h) rfl u t0 o_t0 hW (lv_sub hl [0] rfl) h
-- GearDesk$Trains.<init>()V
theorem gk_804 : Cond.methodLink R_Trains 5 Lib.objectInit ∈ gt_T := gt_m1 (List.mem_of_getElem? (i := 44) rfl) rfl
theorem gk_805 : Cond.constant R_Trains 11 37820 ∈ gt_T := gt_m1 (List.mem_of_getElem? (i := 45) rfl) rfl
theorem gk_806 : Cond.arrayClass .long ∈ gt_T := gt_m1 (List.mem_of_getElem? (i := 99) rfl) rfl
def gy_Trains_init : MethodName := ⟨R_Trains, "<init>", "()V"⟩
abbrev gb_Trains_init : ByteArray := prog_7_method_1_code
theorem gk_807 : Cond.code gy_Trains_init gb_Trains_init 1 none ∈ gt_T := gt_m1 (List.mem_of_getElem? (i := 43) rfl) rfl
theorem gm_Trains_init : gw_Mth gy_Trains_init gb_Trains_init 1 none 0 := ⟨gk_807, gk_131, ⟨by decide +kernel, by decide +kernel⟩, by decide +kernel⟩
theorem gd_Trains_init_0 : decode gb_Trains_init 0 = .ok (.aload_n 0, 1) := by decide +kernel
theorem gd_Trains_init_1 : decode gb_Trains_init 1 = .ok (.invokespecial 5, 3) := by decide +kernel
theorem gd_Trains_init_4 : decode gb_Trains_init 4 = .ok (.aload_n 0, 1) := by decide +kernel
theorem gd_Trains_init_5 : decode gb_Trains_init 5 = .ok (.ldc 11, 2) := by decide +kernel
theorem gd_Trains_init_7 : decode gb_Trains_init 7 = .ok (.newarray .long, 2) := by decide +kernel
theorem gd_Trains_init_9 : decode gb_Trains_init 9 = .ok (.putfield 12, 3) := by decide +kernel
theorem gd_Trains_init_12 : decode gb_Trains_init 12 = .ok (.aload_n 0, 1) := by decide +kernel
theorem gd_Trains_init_13 : decode gb_Trains_init 13 = .ok (.ldc 11, 2) := by decide +kernel
theorem gd_Trains_init_15 : decode gb_Trains_init 15 = .ok (.newarray .long, 2) := by decide +kernel
theorem gd_Trains_init_17 : decode gb_Trains_init 17 = .ok (.putfield 16, 3) := by decide +kernel
theorem gd_Trains_init_20 : decode gb_Trains_init 20 = .ok (.aload_n 0, 1) := by decide +kernel
theorem gd_Trains_init_21 : decode gb_Trains_init 21 = .ok (.sipush 2048, 3) := by decide +kernel
theorem gd_Trains_init_24 : decode gb_Trains_init 24 = .ok (.newarray .int, 2) := by decide +kernel
theorem gd_Trains_init_26 : decode gb_Trains_init 26 = .ok (.putfield 19, 3) := by decide +kernel
theorem gd_Trains_init_29 : decode gb_Trains_init 29 = .ok (.aload_n 0, 1) := by decide +kernel
theorem gd_Trains_init_30 : decode gb_Trains_init 30 = .ok (.iconst 4, 1) := by decide +kernel
theorem gd_Trains_init_31 : decode gb_Trains_init 31 = .ok (.newarray .int, 2) := by decide +kernel
theorem gd_Trains_init_33 : decode gb_Trains_init 33 = .ok (.putfield 23, 3) := by decide +kernel
theorem gd_Trains_init_36 : decode gb_Trains_init 36 = .ok (.return_, 1) := by decide +kernel
def gf_Trains_init_b0 (F : Nat) (z : gw_Sh)  (u : gw_St) (t0 : Nat) : Option (gw_Sh × gw_St) :=
  if ((37820 : Int32) < 0 ∨ 60000000 < ((37820 : Int32)).toNatClampNeg) then none else gf_nm (gw_nz z 11 ((37820 : Int32)).toNatClampNeg) fun z1 => gf_nm (gw_zr u z.1) fun u2 => gf_nm (gw_wr u2 t0 0 (z.1 + 1)) fun u7 => if ((37820 : Int32) < 0 ∨ 60000000 < ((37820 : Int32)).toNatClampNeg) then none else gf_nm (gw_nz z1 11 ((37820 : Int32)).toNatClampNeg) fun z9 => gf_nm (gw_zr u7 z1.1) fun u10 => gf_nm (gw_wr u10 t0 1 (z1.1 + 1)) fun u15 => if ((2048 : Int32) < 0 ∨ 60000000 < ((2048 : Int32)).toNatClampNeg) then none else gf_nm (gw_nz z9 10 ((2048 : Int32)).toNatClampNeg) fun z17 => gf_nm (gw_zr u15 z9.1) fun u18 => gf_nm (gw_wr u18 t0 2 (z9.1 + 1)) fun u23 => if ((4 : Int32) < 0 ∨ 60000000 < ((4 : Int32)).toNatClampNeg) then none else gf_nm (gw_nz z17 10 ((4 : Int32)).toNatClampNeg) fun z25 => gf_nm (gw_zr u23 z17.1) fun u26 => gf_nm (gw_wr u26 t0 3 (z17.1 + 1)) fun u31 => some (z25, u31)
def gf_Trains_init (F : Nat) (z : gw_Sh) (u : gw_St) (t0 : Nat) : Option (gw_Sh × gw_St) := gf_Trains_init_b0 F z  u t0
set_option maxHeartbeats 4000000 in
set_option maxRecDepth 20000 in
theorem gx_Trains_init_b0 {p : Program} {l : Launch} {e : Env} {s : State} {m : MethodId} {args : Array Value} {below : List Frame} {meth : Method} {c : Code} {D : va_G} {cA : Nat → ClassId} {hs : Nat → Nat} {z z0 : gw_Sh} (F : Nat) {r0 : (gw_Sh × gw_St)} (C : gw_Cx p s m args c gb_Trains_init 1 R_Trains D cA) (hr : meth.sig.returnType = none) (hk : meth.locks = false) (hin : meth.name = "<init>") (hAO : va_AO R_Fraction s) {R : Room} (hR : 1 ≤ R.frames ∧ 64 ≤ R.locals ∧ 4 ≤ R.cells ∧ 77692 ≤ R.slots) (hh : ∀ j, hs (z0.1 + j) = s.heap.size + j) (hz : ∀ p d, gw_ok z0 p d → gw_ok z p d) (hzc : z.1 = z0.1 + 0) (u : gw_St) (t0 : Nat) (o_t0 : gw_ok z t0 1) {H : Heap} {locs : List Loc} {ls : Array Slot} (hW : gw_Wd D cA hs z (gw_A hs z0 s.heap.size) s.heap u H locs) (hl : lv_has ls 1 [(0, .ref (hs t0))]) (h : gf_Trains_init_b0 F z   u t0 = some r0) : gw_Gc p l e R s m args below meth c D cA hs z0 r0 4 77692 H locs 0 0 ls 0 [] := by
  obtain ⟨hx, hb, hml, hown, hts, hK⟩ := id C
  unfold gf_Trains_init_b0 at h
  refine lv_aload_n hx hb gd_Trains_init_0 rfl (lv_at hl 0 rfl) ?_
  refine W.objInit hx hb hown (hts _ gk_804) (hts _ gk_790) (hts _ gk_791) rfl (by rw [hml]; exact hl.1) rfl gd_Trains_init_1 (Nat.le_trans (m := 1) (Nat.le_of_ble_eq_true rfl) hR.1) (Nat.le_trans (m := 64) (Nat.le_of_ble_eq_true rfl) hR.2.1) ?_
  refine W.eq (g2 := F0 m 4 ls []) rfl ?_
  refine lv_aload_n hx hb gd_Trains_init_4 rfl (lv_at hl 0 rfl) ?_
  refine lv_ldc (v := 37820) hx hb hown (hts _ gk_805) gd_Trains_init_5 ?_
  obtain ⟨g6, h⟩ := gf_if_ok h
  refine gw_frW hW hh hzc (fun hF => ?_)
  refine gw_newl C hW (fun _ h => Or.inr h) hF gk_806 g6 (Nat.le_trans (m := 4) (by decide +kernel) hR.2.2.1) (Nat.le_trans (m := 77692) (by decide +kernel) hR.2.2.2) gd_Trains_init_7 (fun z1 u2 H e3 e4 hW hF o5 hz9 => ?_)
  have h := gf_nm_ok e3 h
  have h := gf_nm_ok e4 h
  have o_t0 := hz9 _ _ o_t0
  have hz := fun p d h => hz9 p d (hz p d h)
  refine W.widen (k := 1) (n := 37820) (by decide +kernel) (by decide +kernel) ?_
  have hzc : z1.1 = z0.1 + 1 := gw_hzc (b := z.1) (c := 1) (by rw [e3]; rfl) hzc (by decide)
  refine gw_putr (k := 0) (ty := 11) (ref := R_Trains) (fty := .array .long) C hW o_t0 o5 (by decide) rfl gi_Trains rfl (by decide) rfl rfl gk_146 tf_Trains tf_Trains_ok nm_Trains rfl rfl (fun _ => rfl) (fun _ => rfl) gd_Trains_init_9 (fun u7 H locs e8 hW => ?_)
  have h := gf_nm_ok e8 h
  refine lv_aload_n hx hb gd_Trains_init_12 rfl (lv_at hl 0 rfl) ?_
  refine lv_ldc (v := 37820) hx hb hown (hts _ gk_805) gd_Trains_init_13 ?_
  obtain ⟨g14, h⟩ := gf_if_ok h
  refine gw_frW hW hh hzc (fun hF => ?_)
  refine gw_newl C hW (fun _ h => Or.inr h) hF gk_806 g14 (Nat.le_trans (m := 4) (by decide +kernel) hR.2.2.1) (Nat.le_trans (m := 77692) (by decide +kernel) hR.2.2.2) gd_Trains_init_15 (fun z9 u10 H e11 e12 hW hF o13 hz9 => ?_)
  have h := gf_nm_ok e11 h
  have h := gf_nm_ok e12 h
  have o_t0 := hz9 _ _ o_t0
  have o5 := hz9 _ _ o5
  have hz := fun p d h => hz9 p d (hz p d h)
  refine W.widen (k := 2) (n := 75640) (by decide +kernel) (by decide +kernel) ?_
  have hzc : z9.1 = z0.1 + 2 := gw_hzc (b := z1.1) (c := 1) (by rw [e11]; rfl) hzc (by decide)
  refine gw_putr (k := 1) (ty := 11) (ref := R_Trains) (fty := .array .long) C hW o_t0 o13 (by decide) rfl gi_Trains rfl (by decide) rfl rfl gk_155 tf_Trains tf_Trains_ok nm_Trains rfl rfl (fun _ => rfl) (fun _ => rfl) gd_Trains_init_17 (fun u15 H locs e16 hW => ?_)
  have h := gf_nm_ok e16 h
  refine lv_aload_n hx hb gd_Trains_init_20 rfl (lv_at hl 0 rfl) ?_
  refine lv_sipush (v := 2048) hx hb gd_Trains_init_21 (by decide) ?_
  obtain ⟨g22, h⟩ := gf_if_ok h
  refine gw_frW hW hh hzc (fun hF => ?_)
  refine gw_newi C hW (fun _ h => Or.inr h) hF gk_792 g22 (Nat.le_trans (m := 4) (by decide +kernel) hR.2.2.1) (Nat.le_trans (m := 77692) (by decide +kernel) hR.2.2.2) gd_Trains_init_24 (fun z17 u18 H e19 e20 hW hF o21 hz9 => ?_)
  have h := gf_nm_ok e19 h
  have h := gf_nm_ok e20 h
  have o_t0 := hz9 _ _ o_t0
  have o5 := hz9 _ _ o5
  have o13 := hz9 _ _ o13
  have hz := fun p d h => hz9 p d (hz p d h)
  refine W.widen (k := 3) (n := 77688) (by decide +kernel) (by decide +kernel) ?_
  have hzc : z17.1 = z0.1 + 3 := gw_hzc (b := z9.1) (c := 1) (by rw [e19]; rfl) hzc (by decide)
  refine gw_putF (k := 2) (ty := 10) (ref := R_Trains) (fty := .array .int) C hW o_t0 o21 (by decide) rfl gi_Trains rfl (by decide) rfl rfl gk_158 tf_Trains tf_Trains_ok nm_Trains rfl hin rfl rfl (fun _ => rfl) (fun _ => rfl) gd_Trains_init_26 (fun u23 H locs e24 hW => ?_)
  have h := gf_nm_ok e24 h
  refine lv_aload_n hx hb gd_Trains_init_29 rfl (lv_at hl 0 rfl) ?_
  refine lv_iconst (v := 4) hx hb gd_Trains_init_30 (by decide) ?_
  obtain ⟨g30, h⟩ := gf_if_ok h
  refine gw_frW hW hh hzc (fun hF => ?_)
  refine gw_newi C hW (fun _ h => Or.inr h) hF gk_792 g30 (Nat.le_trans (m := 4) (by decide +kernel) hR.2.2.1) (Nat.le_trans (m := 77692) (by decide +kernel) hR.2.2.2) gd_Trains_init_31 (fun z25 u26 H e27 e28 hW hF o29 hz9 => ?_)
  have h := gf_nm_ok e27 h
  have h := gf_nm_ok e28 h
  have o_t0 := hz9 _ _ o_t0
  have o5 := hz9 _ _ o5
  have o13 := hz9 _ _ o13
  have o21 := hz9 _ _ o21
  have hz := fun p d h => hz9 p d (hz p d h)
  refine W.widen (k := 4) (n := 77692) (by decide +kernel) (by decide +kernel) ?_
  have hzc : z25.1 = z0.1 + 4 := gw_hzc (b := z17.1) (c := 1) (by rw [e27]; rfl) hzc (by decide)
  refine gw_putF (k := 3) (ty := 10) (ref := R_Trains) (fty := .array .int) C hW o_t0 o29 (by decide) rfl gi_Trains rfl (by decide) rfl rfl gk_143 tf_Trains tf_Trains_ok nm_Trains rfl hin rfl rfl (fun _ => rfl) (fun _ => rfl) gd_Trains_init_33 (fun u31 H locs e32 hW => ?_)
  have h := gf_nm_ok e32 h
  obtain rfl := Option.some.inj h
  exact gw_vretC C hW hzc hz hr hk gd_Trains_init_36

set_option maxRecDepth 20000 in
theorem gc_Trains_init (l : Launch) {D : va_G} {cA : Nat → ClassId} {hs : Nat → Nat} {z : gw_Sh} (F : Nat) {u : gw_St} {r0 : gw_Sh × gw_St} {t0 : Nat} (o_t0 : gw_ok z t0 1) (h : gf_Trains_init F z u t0 = some r0) (sz : Nat) (hh : ∀ j, hs (z.1 + j) = sz + j) : gw_Mc l gy_Trains_init gb_Trains_init 1 (gw_rc 1 64 4 77692) [.ref (hs t0)] D cA hs z u sz 4 77692 r0 := by
  refine gw_enterC (by decide) (Nat.le_of_ble_eq_true rfl) hh ?_
  intro p e s m below meth c ls hsz C hW hh hAO hr hk hin hl
  subst hsz
  exact gx_Trains_init_b0 F C hr hk hin hAO (gw_rc_ok 1 64 4 77692) hh (fun _ _ h => h) rfl u t0 o_t0 hW (lv_sub hl [0] rfl) h
-- GearDesk$Works.<init>()V
theorem gk_808 : Cond.methodLink R_Works 3 Lib.objectInit ∈ gt_T := gt_m1 (List.mem_of_getElem? (i := 106) rfl) rfl
def gy_Works_init : MethodName := ⟨R_Works, "<init>", "()V"⟩
abbrev gb_Works_init : ByteArray := prog_9_method_1_code
theorem gk_809 : Cond.code gy_Works_init gb_Works_init 1 none ∈ gt_T := gt_m1 (List.mem_of_getElem? (i := 105) rfl) rfl
theorem gm_Works_init : gw_Mth gy_Works_init gb_Works_init 1 none 0 := ⟨gk_809, gk_110, ⟨by decide +kernel, by decide +kernel⟩, by decide +kernel⟩
theorem gd_Works_init_0 : decode gb_Works_init 0 = .ok (.aload_n 0, 1) := by decide +kernel
theorem gd_Works_init_1 : decode gb_Works_init 1 = .ok (.invokespecial 3, 3) := by decide +kernel
theorem gd_Works_init_4 : decode gb_Works_init 4 = .ok (.aload_n 0, 1) := by decide +kernel
theorem gd_Works_init_5 : decode gb_Works_init 5 = .ok (.bipush 60, 2) := by decide +kernel
theorem gd_Works_init_7 : decode gb_Works_init 7 = .ok (.newarray .int, 2) := by decide +kernel
theorem gd_Works_init_9 : decode gb_Works_init 9 = .ok (.putfield 9, 3) := by decide +kernel
theorem gd_Works_init_12 : decode gb_Works_init 12 = .ok (.aload_n 0, 1) := by decide +kernel
theorem gd_Works_init_13 : decode gb_Works_init 13 = .ok (.sipush 480, 3) := by decide +kernel
theorem gd_Works_init_16 : decode gb_Works_init 16 = .ok (.newarray .int, 2) := by decide +kernel
theorem gd_Works_init_18 : decode gb_Works_init 18 = .ok (.putfield 15, 3) := by decide +kernel
theorem gd_Works_init_21 : decode gb_Works_init 21 = .ok (.aload_n 0, 1) := by decide +kernel
theorem gd_Works_init_22 : decode gb_Works_init 22 = .ok (.iconst (-1), 1) := by decide +kernel
theorem gd_Works_init_23 : decode gb_Works_init 23 = .ok (.putfield 18, 3) := by decide +kernel
theorem gd_Works_init_26 : decode gb_Works_init 26 = .ok (.return_, 1) := by decide +kernel
def gf_Works_init_b0 (F : Nat) (z : gw_Sh)  (u : gw_St) (t0 : Nat) : Option (gw_Sh × gw_St) :=
  if ((60 : Int32) < 0 ∨ 60000000 < ((60 : Int32)).toNatClampNeg) then none else gf_nm (gw_nz z 10 ((60 : Int32)).toNatClampNeg) fun z1 => gf_nm (gw_zr u z.1) fun u2 => gf_nm (gw_wr u2 t0 0 (z.1 + 1)) fun u7 => if ((480 : Int32) < 0 ∨ 60000000 < ((480 : Int32)).toNatClampNeg) then none else gf_nm (gw_nz z1 10 ((480 : Int32)).toNatClampNeg) fun z9 => gf_nm (gw_zr u7 z1.1) fun u10 => gf_nm (gw_wr u10 t0 1 (z1.1 + 1)) fun u15 => gf_nm (gw_wi u15 t0 4 (-1 : Int32)) fun u17 => some (z9, u17)
def gf_Works_init (F : Nat) (z : gw_Sh) (u : gw_St) (t0 : Nat) : Option (gw_Sh × gw_St) := gf_Works_init_b0 F z  u t0
set_option maxHeartbeats 4000000 in
set_option maxRecDepth 20000 in
theorem gx_Works_init_b0 {p : Program} {l : Launch} {e : Env} {s : State} {m : MethodId} {args : Array Value} {below : List Frame} {meth : Method} {c : Code} {D : va_G} {cA : Nat → ClassId} {hs : Nat → Nat} {z z0 : gw_Sh} (F : Nat) {r0 : (gw_Sh × gw_St)} (C : gw_Cx p s m args c gb_Works_init 1 R_Works D cA) (hr : meth.sig.returnType = none) (hk : meth.locks = false) (hin : meth.name = "<init>") (hAO : va_AO R_Fraction s) {R : Room} (hR : 1 ≤ R.frames ∧ 64 ≤ R.locals ∧ 2 ≤ R.cells ∧ 540 ≤ R.slots) (hh : ∀ j, hs (z0.1 + j) = s.heap.size + j) (hz : ∀ p d, gw_ok z0 p d → gw_ok z p d) (hzc : z.1 = z0.1 + 0) (u : gw_St) (t0 : Nat) (o_t0 : gw_ok z t0 2) {H : Heap} {locs : List Loc} {ls : Array Slot} (hW : gw_Wd D cA hs z (gw_A hs z0 s.heap.size) s.heap u H locs) (hl : lv_has ls 1 [(0, .ref (hs t0))]) (h : gf_Works_init_b0 F z   u t0 = some r0) : gw_Gc p l e R s m args below meth c D cA hs z0 r0 2 540 H locs 0 0 ls 0 [] := by
  obtain ⟨hx, hb, hml, hown, hts, hK⟩ := id C
  unfold gf_Works_init_b0 at h
  refine lv_aload_n hx hb gd_Works_init_0 rfl (lv_at hl 0 rfl) ?_
  refine W.objInit hx hb hown (hts _ gk_808) (hts _ gk_790) (hts _ gk_791) rfl (by rw [hml]; exact hl.1) rfl gd_Works_init_1 (Nat.le_trans (m := 1) (Nat.le_of_ble_eq_true rfl) hR.1) (Nat.le_trans (m := 64) (Nat.le_of_ble_eq_true rfl) hR.2.1) ?_
  refine W.eq (g2 := F0 m 4 ls []) rfl ?_
  refine lv_aload_n hx hb gd_Works_init_4 rfl (lv_at hl 0 rfl) ?_
  refine lv_bipush (v := 60) hx hb gd_Works_init_5 (by decide) ?_
  obtain ⟨g6, h⟩ := gf_if_ok h
  refine gw_frW hW hh hzc (fun hF => ?_)
  refine gw_newi C hW (fun _ h => Or.inr h) hF gk_792 g6 (Nat.le_trans (m := 2) (by decide +kernel) hR.2.2.1) (Nat.le_trans (m := 540) (by decide +kernel) hR.2.2.2) gd_Works_init_7 (fun z1 u2 H e3 e4 hW hF o5 hz9 => ?_)
  have h := gf_nm_ok e3 h
  have h := gf_nm_ok e4 h
  have o_t0 := hz9 _ _ o_t0
  have hz := fun p d h => hz9 p d (hz p d h)
  refine W.widen (k := 1) (n := 60) (by decide +kernel) (by decide +kernel) ?_
  have hzc : z1.1 = z0.1 + 1 := gw_hzc (b := z.1) (c := 1) (by rw [e3]; rfl) hzc (by decide)
  refine gw_putF (k := 0) (ty := 10) (ref := R_Works) (fty := .array .int) C hW o_t0 o5 (by decide) rfl gi_Works rfl (by decide) rfl rfl gk_108 tf_Works tf_Works_ok nm_Works rfl hin rfl rfl (fun _ => rfl) (fun _ => rfl) gd_Works_init_9 (fun u7 H locs e8 hW => ?_)
  have h := gf_nm_ok e8 h
  refine lv_aload_n hx hb gd_Works_init_12 rfl (lv_at hl 0 rfl) ?_
  refine lv_sipush (v := 480) hx hb gd_Works_init_13 (by decide) ?_
  obtain ⟨g14, h⟩ := gf_if_ok h
  refine gw_frW hW hh hzc (fun hF => ?_)
  refine gw_newi C hW (fun _ h => Or.inr h) hF gk_792 g14 (Nat.le_trans (m := 2) (by decide +kernel) hR.2.2.1) (Nat.le_trans (m := 540) (by decide +kernel) hR.2.2.2) gd_Works_init_16 (fun z9 u10 H e11 e12 hW hF o13 hz9 => ?_)
  have h := gf_nm_ok e11 h
  have h := gf_nm_ok e12 h
  have o_t0 := hz9 _ _ o_t0
  have o5 := hz9 _ _ o5
  have hz := fun p d h => hz9 p d (hz p d h)
  refine W.widen (k := 2) (n := 540) (by decide +kernel) (by decide +kernel) ?_
  have hzc : z9.1 = z0.1 + 2 := gw_hzc (b := z1.1) (c := 1) (by rw [e11]; rfl) hzc (by decide)
  refine gw_putF (k := 1) (ty := 10) (ref := R_Works) (fty := .array .int) C hW o_t0 o13 (by decide) rfl gi_Works rfl (by decide) rfl rfl gk_113 tf_Works tf_Works_ok nm_Works rfl hin rfl rfl (fun _ => rfl) (fun _ => rfl) gd_Works_init_18 (fun u15 H locs e16 hW => ?_)
  have h := gf_nm_ok e16 h
  refine lv_aload_n hx hb gd_Works_init_21 rfl (lv_at hl 0 rfl) ?_
  refine lv_iconst (v := (-1)) hx hb gd_Works_init_22 (by decide) ?_
  refine gw_puti (k := 4) (ref := R_Works) (fty := .int) C hW o_t0 (by decide) rfl gi_Works rfl (by decide) rfl rfl gk_125 tf_Works tf_Works_ok nm_Works rfl rfl rfl rfl gd_Works_init_23 (fun u17 H locs e18 hW => ?_)
  have h := gf_nm_ok e18 h
  obtain rfl := Option.some.inj h
  exact gw_vretC C hW hzc hz hr hk gd_Works_init_26

set_option maxRecDepth 20000 in
theorem gc_Works_init (l : Launch) {D : va_G} {cA : Nat → ClassId} {hs : Nat → Nat} {z : gw_Sh} (F : Nat) {u : gw_St} {r0 : gw_Sh × gw_St} {t0 : Nat} (o_t0 : gw_ok z t0 2) (h : gf_Works_init F z u t0 = some r0) (sz : Nat) (hh : ∀ j, hs (z.1 + j) = sz + j) : gw_Mc l gy_Works_init gb_Works_init 1 (gw_rc 1 64 2 540) [.ref (hs t0)] D cA hs z u sz 2 540 r0 := by
  refine gw_enterC (by decide) (Nat.le_of_ble_eq_true rfl) hh ?_
  intro p e s m below meth c ls hsz C hW hh hAO hr hk hin hl
  subst hsz
  exact gx_Works_init_b0 F C hr hk hin hAO (gw_rc_ok 1 64 2 540) hh (fun _ _ h => h) rfl u t0 o_t0 hW (lv_sub hl [0] rfl) h
-- GearDesk$Hands.<init>(LGearDesk$Calculator;)V
theorem gk_810 : Cond.methodLink R_Hands 1 Lib.objectInit ∈ gt_T := gt_m2 (List.mem_of_getElem? (i := 32) rfl) rfl
theorem gk_811 : Cond.classLink R_Hands 13 R_Fraction ∈ gt_T := gt_m2 (List.mem_of_getElem? (i := 33) rfl) rfl
theorem gk_812 : Cond.instantiable R_Fraction 2 ∈ gt_T := gt_m1 (List.mem_of_getElem? (i := 193) rfl) rfl
theorem gk_813 : Cond.methodLink R_Hands 17 gy_Fraction_init ∈ gt_T := gt_m2 (List.mem_of_getElem? (i := 34) rfl) rfl
theorem gk_814 : Cond.instanceMethod gy_Fraction_init ∈ gt_T := gt_m1 (List.mem_of_getElem? (i := 195) rfl) rfl
theorem gk_815 : Cond.classLink R_Hands 24 R_Whole ∈ gt_T := gt_m2 (List.mem_of_getElem? (i := 35) rfl) rfl
theorem gk_816 : Cond.methodLink R_Hands 26 gy_Whole_init ∈ gt_T := gt_m2 (List.mem_of_getElem? (i := 36) rfl) rfl
def gy_Hands_init : MethodName := ⟨R_Hands, "<init>", "(LGearDesk$Calculator;)V"⟩
abbrev gb_Hands_init : ByteArray := prog_5_method_1_code
theorem gk_817 : Cond.code gy_Hands_init gb_Hands_init 2 none ∈ gt_T := gt_m2 (List.mem_of_getElem? (i := 31) rfl) rfl
theorem gm_Hands_init : gw_Mth gy_Hands_init gb_Hands_init 2 none 1 := ⟨gk_817, gk_343, ⟨by decide +kernel, by decide +kernel⟩, by decide +kernel⟩
theorem gd_Hands_init_0 : decode gb_Hands_init 0 = .ok (.aload_n 0, 1) := by decide +kernel
theorem gd_Hands_init_1 : decode gb_Hands_init 1 = .ok (.invokespecial 1, 3) := by decide +kernel
theorem gd_Hands_init_4 : decode gb_Hands_init 4 = .ok (.aload_n 0, 1) := by decide +kernel
theorem gd_Hands_init_5 : decode gb_Hands_init 5 = .ok (.aload_n 1, 1) := by decide +kernel
theorem gd_Hands_init_6 : decode gb_Hands_init 6 = .ok (.putfield 7, 3) := by decide +kernel
theorem gd_Hands_init_9 : decode gb_Hands_init 9 = .ok (.aload_n 0, 1) := by decide +kernel
theorem gd_Hands_init_10 : decode gb_Hands_init 10 = .ok (.new 13, 3) := by decide +kernel
theorem gd_Hands_init_13 : decode gb_Hands_init 13 = .ok (.dup, 1) := by decide +kernel
theorem gd_Hands_init_14 : decode gb_Hands_init 14 = .ok (.bipush 48, 2) := by decide +kernel
theorem gd_Hands_init_16 : decode gb_Hands_init 16 = .ok (.invokespecial 17, 3) := by decide +kernel
theorem gd_Hands_init_19 : decode gb_Hands_init 19 = .ok (.putfield 20, 3) := by decide +kernel
theorem gd_Hands_init_22 : decode gb_Hands_init 22 = .ok (.aload_n 0, 1) := by decide +kernel
theorem gd_Hands_init_23 : decode gb_Hands_init 23 = .ok (.new 24, 3) := by decide +kernel
theorem gd_Hands_init_26 : decode gb_Hands_init 26 = .ok (.dup, 1) := by decide +kernel
theorem gd_Hands_init_27 : decode gb_Hands_init 27 = .ok (.bipush 48, 2) := by decide +kernel
theorem gd_Hands_init_29 : decode gb_Hands_init 29 = .ok (.invokespecial 26, 3) := by decide +kernel
theorem gd_Hands_init_32 : decode gb_Hands_init 32 = .ok (.putfield 27, 3) := by decide +kernel
theorem gd_Hands_init_35 : decode gb_Hands_init 35 = .ok (.aload_n 0, 1) := by decide +kernel
theorem gd_Hands_init_36 : decode gb_Hands_init 36 = .ok (.new 24, 3) := by decide +kernel
theorem gd_Hands_init_39 : decode gb_Hands_init 39 = .ok (.dup, 1) := by decide +kernel
theorem gd_Hands_init_40 : decode gb_Hands_init 40 = .ok (.bipush 48, 2) := by decide +kernel
theorem gd_Hands_init_42 : decode gb_Hands_init 42 = .ok (.invokespecial 26, 3) := by decide +kernel
theorem gd_Hands_init_45 : decode gb_Hands_init 45 = .ok (.putfield 31, 3) := by decide +kernel
theorem gd_Hands_init_48 : decode gb_Hands_init 48 = .ok (.aload_n 0, 1) := by decide +kernel
theorem gd_Hands_init_49 : decode gb_Hands_init 49 = .ok (.new 24, 3) := by decide +kernel
theorem gd_Hands_init_52 : decode gb_Hands_init 52 = .ok (.dup, 1) := by decide +kernel
theorem gd_Hands_init_53 : decode gb_Hands_init 53 = .ok (.bipush 48, 2) := by decide +kernel
theorem gd_Hands_init_55 : decode gb_Hands_init 55 = .ok (.invokespecial 26, 3) := by decide +kernel
theorem gd_Hands_init_58 : decode gb_Hands_init 58 = .ok (.putfield 34, 3) := by decide +kernel
theorem gd_Hands_init_61 : decode gb_Hands_init 61 = .ok (.return_, 1) := by decide +kernel
def gf_Hands_init_b0 (F : Nat) (z : gw_Sh)  (u : gw_St) (t0 : Nat) (t1 : Nat) : Option (gw_Sh × gw_St) :=
  gf_nm (gw_wr u t0 0 (t1 + 1)) fun u1 => gf_nm (gw_nz z 6 0) fun z3 => gf_nm (gw_zr u1 z.1) fun u4 => gf_cz (gf_Fraction_init F z3 u4 z.1 (48 : Int32)) fun z8 u9 => gf_nm (gw_wr u9 t0 1 (z.1 + 1)) fun u11 => gf_nm (gw_nz z8 8 0) fun z13 => gf_nm (gw_zr u11 z8.1) fun u14 => gf_cz (gf_Whole_init F z13 u14 z8.1 (48 : Int32)) fun z18 u19 => gf_nm (gw_wr u19 t0 2 (z8.1 + 1)) fun u21 => gf_nm (gw_nz z18 8 0) fun z23 => gf_nm (gw_zr u21 z18.1) fun u24 => gf_cz (gf_Whole_init F z23 u24 z18.1 (48 : Int32)) fun z28 u29 => gf_nm (gw_wr u29 t0 3 (z18.1 + 1)) fun u31 => gf_nm (gw_nz z28 8 0) fun z33 => gf_nm (gw_zr u31 z28.1) fun u34 => gf_cz (gf_Whole_init F z33 u34 z28.1 (48 : Int32)) fun z38 u39 => gf_nm (gw_wr u39 t0 4 (z28.1 + 1)) fun u41 => some (z38, u41)
def gf_Hands_init (F : Nat) (z : gw_Sh) (u : gw_St) (t0 : Nat) (t1 : Nat) : Option (gw_Sh × gw_St) := gf_Hands_init_b0 F z  u t0 t1
set_option maxHeartbeats 4000000 in
set_option maxRecDepth 20000 in
theorem gx_Hands_init_b0 {p : Program} {l : Launch} {e : Env} {s : State} {m : MethodId} {args : Array Value} {below : List Frame} {meth : Method} {c : Code} {D : va_G} {cA : Nat → ClassId} {hs : Nat → Nat} {z z0 : gw_Sh} (F : Nat) {r0 : (gw_Sh × gw_St)} (C : gw_Cx p s m args c gb_Hands_init 2 R_Hands D cA) (hr : meth.sig.returnType = none) (hk : meth.locks = false) (hin : meth.name = "<init>") (hAO : va_AO R_Fraction s) {R : Room} (hR : 3 ≤ R.frames ∧ 106 ≤ R.locals ∧ 11 ≤ R.cells ∧ 257 ≤ R.slots) (hh : ∀ j, hs (z0.1 + j) = s.heap.size + j) (hz : ∀ p d, gw_ok z0 p d → gw_ok z p d) (hzc : z.1 = z0.1 + 0) (u : gw_St) (t0 : Nat) (t1 : Nat) (o_t0 : gw_ok z t0 5) (o_t1 : gw_ok z t1 7) {H : Heap} {locs : List Loc} {ls : Array Slot} (hW : gw_Wd D cA hs z (gw_A hs z0 s.heap.size) s.heap u H locs) (hl : lv_has ls 2 [(0, .ref (hs t0)), (1, .ref (hs t1))]) (h : gf_Hands_init_b0 F z   u t0 t1 = some r0) : gw_Gc p l e R s m args below meth c D cA hs z0 r0 11 257 H locs 0 0 ls 0 [] := by
  obtain ⟨hx, hb, hml, hown, hts, hK⟩ := id C
  unfold gf_Hands_init_b0 at h
  refine lv_aload_n hx hb gd_Hands_init_0 rfl (lv_at hl 0 rfl) ?_
  refine W.objInit hx hb hown (hts _ gk_810) (hts _ gk_790) (hts _ gk_791) rfl (by rw [hml]; exact hl.1) rfl gd_Hands_init_1 (Nat.le_trans (m := 3) (Nat.le_of_ble_eq_true rfl) hR.1) (Nat.le_trans (m := 106) (Nat.le_of_ble_eq_true rfl) hR.2.1) ?_
  refine W.eq (g2 := F0 m 4 ls []) rfl ?_
  refine lv_aload_n hx hb gd_Hands_init_4 rfl (lv_at hl 0 rfl) ?_
  refine lv_aload_n hx hb gd_Hands_init_5 rfl (lv_at hl 1 rfl) ?_
  refine gw_putF (k := 0) (ty := 7) (ref := R_Hands) (fty := .object "GearDesk$Calculator") C hW o_t0 o_t1 (by decide) rfl gi_Hands rfl (by decide) rfl rfl gk_331 tf_Hands tf_Hands_ok nm_Hands rfl hin rfl rfl (fun _ => rfl) (fun _ => rfl) gd_Hands_init_6 (fun u1 H locs e2 hW => ?_)
  have h := gf_nm_ok e2 h
  refine lv_aload_n hx hb gd_Hands_init_9 rfl (lv_at hl 0 rfl) ?_
  refine gw_frW hW hh hzc (fun hF => ?_)
  refine gw_new (ci := 6) C hW (fun _ h => Or.inr h) hF (by decide) rfl gi_Fraction rfl tf_Fraction tf_Fraction_ok df_Fraction gk_811 gk_812 gk_59 (Nat.le_trans (m := 11) (by decide +kernel) hR.2.2.1) (Nat.le_trans (m := 257) (by decide +kernel) hR.2.2.2) gd_Hands_init_10 (fun z3 u4 H e5 e6 hW hF o7 hz9 => ?_)
  have h := gf_nm_ok e5 h
  have h := gf_nm_ok e6 h
  have o_t0 := hz9 _ _ o_t0
  have o_t1 := hz9 _ _ o_t1
  have hz := fun p d h => hz9 p d (hz p d h)
  refine W.widen (k := 1) (n := 2) (by decide +kernel) (by decide +kernel) ?_
  have hzc : z3.1 = z0.1 + 1 := gw_hzc (b := z.1) (c := 1) (by rw [e5]; rfl) hzc (by decide)
  refine lv_dup hx hb gd_Hands_init_13 rfl ?_
  refine lv_bipush (v := 48) hx hb gd_Hands_init_14 (by decide) ?_
  obtain ⟨z8, u9, d10, h⟩ := gf_cz_ok h
  refine gw_frW hW hh hzc (fun hF => ?_)
  refine gw_callI (As := [.int (48 : Int32)]) (rest := [.ref (hs z.1), .ref (hs t0)]) C hAO hW (fun _ h => Or.inr h) hl.1 gm_Fraction_init (gc_Fraction_init l F o7 d10 _ hF) gk_813 gk_814 rfl rfl rfl ⟨(Nat.le_trans (m := 3) (Nat.le_of_ble_eq_true rfl) hR.1), (Nat.le_trans (m := 106) (Nat.le_of_ble_eq_true rfl) hR.2.1)⟩ ⟨(Nat.le_trans (m := 11) (by decide +kernel) hR.2.2.1), (Nat.le_trans (m := 257) (by decide +kernel) hR.2.2.2)⟩ rfl rfl (Nat.le_of_ble_eq_true rfl) gd_Hands_init_16 (fun H locs hW hc9 hz9 => ?_)
  have o_t0 := hz9 _ _ o_t0
  have o_t1 := hz9 _ _ o_t1
  have o7 := hz9 _ _ o7
  have hz := fun p d h => hz9 p d (hz p d h)
  refine W.widen (k := 5) (n := 104) (by decide +kernel) (by decide +kernel) ?_
  have hzc : z8.1 = z0.1 + 5 := gw_hzc (c := 4) hc9 hzc (by decide)
  refine gw_putF (k := 1) (ty := 6) (ref := R_Hands) (fty := .object "GearDesk$Fraction") C hW o_t0 o7 (by decide) rfl gi_Hands rfl (by decide) rfl rfl gk_327 tf_Hands tf_Hands_ok nm_Hands rfl hin rfl rfl (fun _ => rfl) (fun _ => rfl) gd_Hands_init_19 (fun u11 H locs e12 hW => ?_)
  have h := gf_nm_ok e12 h
  refine lv_aload_n hx hb gd_Hands_init_22 rfl (lv_at hl 0 rfl) ?_
  refine gw_frW hW hh hzc (fun hF => ?_)
  refine gw_new (ci := 8) C hW (fun _ h => Or.inr h) hF (by decide) rfl gi_Whole rfl tf_Whole tf_Whole_ok df_Whole gk_815 gk_796 gk_16 (Nat.le_trans (m := 11) (by decide +kernel) hR.2.2.1) (Nat.le_trans (m := 257) (by decide +kernel) hR.2.2.2) gd_Hands_init_23 (fun z13 u14 H e15 e16 hW hF o17 hz9 => ?_)
  have h := gf_nm_ok e15 h
  have h := gf_nm_ok e16 h
  have o_t0 := hz9 _ _ o_t0
  have o_t1 := hz9 _ _ o_t1
  have o7 := hz9 _ _ o7
  have hz := fun p d h => hz9 p d (hz p d h)
  refine W.widen (k := 6) (n := 107) (by decide +kernel) (by decide +kernel) ?_
  have hzc : z13.1 = z0.1 + 6 := gw_hzc (b := z8.1) (c := 1) (by rw [e15]; rfl) hzc (by decide)
  refine lv_dup hx hb gd_Hands_init_26 rfl ?_
  refine lv_bipush (v := 48) hx hb gd_Hands_init_27 (by decide) ?_
  obtain ⟨z18, u19, d20, h⟩ := gf_cz_ok h
  refine gw_frW hW hh hzc (fun hF => ?_)
  refine gw_callI (As := [.int (48 : Int32)]) (rest := [.ref (hs z8.1), .ref (hs t0)]) C hAO hW (fun _ h => Or.inr h) hl.1 gm_Whole_init (gc_Whole_init l F o17 d20 _ hF) gk_816 gk_798 rfl rfl rfl ⟨(Nat.le_trans (m := 3) (Nat.le_of_ble_eq_true rfl) hR.1), (Nat.le_trans (m := 106) (Nat.le_of_ble_eq_true rfl) hR.2.1)⟩ ⟨(Nat.le_trans (m := 11) (by decide +kernel) hR.2.2.1), (Nat.le_trans (m := 257) (by decide +kernel) hR.2.2.2)⟩ rfl rfl (Nat.le_of_ble_eq_true rfl) gd_Hands_init_29 (fun H locs hW hc9 hz9 => ?_)
  have o_t0 := hz9 _ _ o_t0
  have o_t1 := hz9 _ _ o_t1
  have o7 := hz9 _ _ o7
  have o17 := hz9 _ _ o17
  have hz := fun p d h => hz9 p d (hz p d h)
  refine W.widen (k := 7) (n := 155) (by decide +kernel) (by decide +kernel) ?_
  have hzc : z18.1 = z0.1 + 7 := gw_hzc (c := 1) hc9 hzc (by decide)
  refine gw_putF (k := 2) (ty := 8) (ref := R_Hands) (fty := .object "GearDesk$Whole") C hW o_t0 o17 (by decide) rfl gi_Hands rfl (by decide) rfl rfl gk_325 tf_Hands tf_Hands_ok nm_Hands rfl hin rfl rfl (fun _ => rfl) (fun _ => rfl) gd_Hands_init_32 (fun u21 H locs e22 hW => ?_)
  have h := gf_nm_ok e22 h
  refine lv_aload_n hx hb gd_Hands_init_35 rfl (lv_at hl 0 rfl) ?_
  refine gw_frW hW hh hzc (fun hF => ?_)
  refine gw_new (ci := 8) C hW (fun _ h => Or.inr h) hF (by decide) rfl gi_Whole rfl tf_Whole tf_Whole_ok df_Whole gk_815 gk_796 gk_16 (Nat.le_trans (m := 11) (by decide +kernel) hR.2.2.1) (Nat.le_trans (m := 257) (by decide +kernel) hR.2.2.2) gd_Hands_init_36 (fun z23 u24 H e25 e26 hW hF o27 hz9 => ?_)
  have h := gf_nm_ok e25 h
  have h := gf_nm_ok e26 h
  have o_t0 := hz9 _ _ o_t0
  have o_t1 := hz9 _ _ o_t1
  have o7 := hz9 _ _ o7
  have o17 := hz9 _ _ o17
  have hz := fun p d h => hz9 p d (hz p d h)
  refine W.widen (k := 8) (n := 158) (by decide +kernel) (by decide +kernel) ?_
  have hzc : z23.1 = z0.1 + 8 := gw_hzc (b := z18.1) (c := 1) (by rw [e25]; rfl) hzc (by decide)
  refine lv_dup hx hb gd_Hands_init_39 rfl ?_
  refine lv_bipush (v := 48) hx hb gd_Hands_init_40 (by decide) ?_
  obtain ⟨z28, u29, d30, h⟩ := gf_cz_ok h
  refine gw_frW hW hh hzc (fun hF => ?_)
  refine gw_callI (As := [.int (48 : Int32)]) (rest := [.ref (hs z18.1), .ref (hs t0)]) C hAO hW (fun _ h => Or.inr h) hl.1 gm_Whole_init (gc_Whole_init l F o27 d30 _ hF) gk_816 gk_798 rfl rfl rfl ⟨(Nat.le_trans (m := 3) (Nat.le_of_ble_eq_true rfl) hR.1), (Nat.le_trans (m := 106) (Nat.le_of_ble_eq_true rfl) hR.2.1)⟩ ⟨(Nat.le_trans (m := 11) (by decide +kernel) hR.2.2.1), (Nat.le_trans (m := 257) (by decide +kernel) hR.2.2.2)⟩ rfl rfl (Nat.le_of_ble_eq_true rfl) gd_Hands_init_42 (fun H locs hW hc9 hz9 => ?_)
  have o_t0 := hz9 _ _ o_t0
  have o_t1 := hz9 _ _ o_t1
  have o7 := hz9 _ _ o7
  have o17 := hz9 _ _ o17
  have o27 := hz9 _ _ o27
  have hz := fun p d h => hz9 p d (hz p d h)
  refine W.widen (k := 9) (n := 206) (by decide +kernel) (by decide +kernel) ?_
  have hzc : z28.1 = z0.1 + 9 := gw_hzc (c := 1) hc9 hzc (by decide)
  refine gw_putF (k := 3) (ty := 8) (ref := R_Hands) (fty := .object "GearDesk$Whole") C hW o_t0 o27 (by decide) rfl gi_Hands rfl (by decide) rfl rfl gk_329 tf_Hands tf_Hands_ok nm_Hands rfl hin rfl rfl (fun _ => rfl) (fun _ => rfl) gd_Hands_init_45 (fun u31 H locs e32 hW => ?_)
  have h := gf_nm_ok e32 h
  refine lv_aload_n hx hb gd_Hands_init_48 rfl (lv_at hl 0 rfl) ?_
  refine gw_frW hW hh hzc (fun hF => ?_)
  refine gw_new (ci := 8) C hW (fun _ h => Or.inr h) hF (by decide) rfl gi_Whole rfl tf_Whole tf_Whole_ok df_Whole gk_815 gk_796 gk_16 (Nat.le_trans (m := 11) (by decide +kernel) hR.2.2.1) (Nat.le_trans (m := 257) (by decide +kernel) hR.2.2.2) gd_Hands_init_49 (fun z33 u34 H e35 e36 hW hF o37 hz9 => ?_)
  have h := gf_nm_ok e35 h
  have h := gf_nm_ok e36 h
  have o_t0 := hz9 _ _ o_t0
  have o_t1 := hz9 _ _ o_t1
  have o7 := hz9 _ _ o7
  have o17 := hz9 _ _ o17
  have o27 := hz9 _ _ o27
  have hz := fun p d h => hz9 p d (hz p d h)
  refine W.widen (k := 10) (n := 209) (by decide +kernel) (by decide +kernel) ?_
  have hzc : z33.1 = z0.1 + 10 := gw_hzc (b := z28.1) (c := 1) (by rw [e35]; rfl) hzc (by decide)
  refine lv_dup hx hb gd_Hands_init_52 rfl ?_
  refine lv_bipush (v := 48) hx hb gd_Hands_init_53 (by decide) ?_
  obtain ⟨z38, u39, d40, h⟩ := gf_cz_ok h
  refine gw_frW hW hh hzc (fun hF => ?_)
  refine gw_callI (As := [.int (48 : Int32)]) (rest := [.ref (hs z28.1), .ref (hs t0)]) C hAO hW (fun _ h => Or.inr h) hl.1 gm_Whole_init (gc_Whole_init l F o37 d40 _ hF) gk_816 gk_798 rfl rfl rfl ⟨(Nat.le_trans (m := 3) (Nat.le_of_ble_eq_true rfl) hR.1), (Nat.le_trans (m := 106) (Nat.le_of_ble_eq_true rfl) hR.2.1)⟩ ⟨(Nat.le_trans (m := 11) (by decide +kernel) hR.2.2.1), (Nat.le_trans (m := 257) (by decide +kernel) hR.2.2.2)⟩ rfl rfl (Nat.le_of_ble_eq_true rfl) gd_Hands_init_55 (fun H locs hW hc9 hz9 => ?_)
  have o_t0 := hz9 _ _ o_t0
  have o_t1 := hz9 _ _ o_t1
  have o7 := hz9 _ _ o7
  have o17 := hz9 _ _ o17
  have o27 := hz9 _ _ o27
  have o37 := hz9 _ _ o37
  have hz := fun p d h => hz9 p d (hz p d h)
  refine W.widen (k := 11) (n := 257) (by decide +kernel) (by decide +kernel) ?_
  have hzc : z38.1 = z0.1 + 11 := gw_hzc (c := 1) hc9 hzc (by decide)
  refine gw_putF (k := 4) (ty := 8) (ref := R_Hands) (fty := .object "GearDesk$Whole") C hW o_t0 o37 (by decide) rfl gi_Hands rfl (by decide) rfl rfl gk_348 tf_Hands tf_Hands_ok nm_Hands rfl hin rfl rfl (fun _ => rfl) (fun _ => rfl) gd_Hands_init_58 (fun u41 H locs e42 hW => ?_)
  have h := gf_nm_ok e42 h
  obtain rfl := Option.some.inj h
  exact gw_vretC C hW hzc hz hr hk gd_Hands_init_61

set_option maxRecDepth 20000 in
theorem gc_Hands_init (l : Launch) {D : va_G} {cA : Nat → ClassId} {hs : Nat → Nat} {z : gw_Sh} (F : Nat) {u : gw_St} {r0 : gw_Sh × gw_St} {t0 : Nat} {t1 : Nat} (o_t0 : gw_ok z t0 5) (o_t1 : gw_ok z t1 7) (h : gf_Hands_init F z u t0 t1 = some r0) (sz : Nat) (hh : ∀ j, hs (z.1 + j) = sz + j) : gw_Mc l gy_Hands_init gb_Hands_init 2 (gw_rc 3 106 11 257) [.ref (hs t0), .ref (hs t1)] D cA hs z u sz 11 257 r0 := by
  refine gw_enterC (by decide) (Nat.le_of_ble_eq_true rfl) hh ?_
  intro p e s m below meth c ls hsz C hW hh hAO hr hk hin hl
  subst hsz
  exact gx_Hands_init_b0 F C hr hk hin hAO (gw_rc_ok 3 106 11 257) hh (fun _ _ h => h) rfl u t0 t1 o_t0 o_t1 hW (lv_sub hl [0, 1] rfl) h
-- GearDesk$Equations.<init>(LGearDesk$Calculator;)V
theorem gk_818 : Cond.methodLink R_Equations 3 Lib.objectInit ∈ gt_T := gt_m1 (List.mem_of_getElem? (i := 188) rfl) rfl
theorem gk_819 : Cond.constant R_Equations 15 79200 ∈ gt_T := gt_m1 (List.mem_of_getElem? (i := 189) rfl) rfl
theorem gk_820 : Cond.classLink R_Equations 32 R_Whole ∈ gt_T := gt_m1 (List.mem_of_getElem? (i := 190) rfl) rfl
theorem gk_821 : Cond.methodLink R_Equations 36 gy_Whole_init ∈ gt_T := gt_m1 (List.mem_of_getElem? (i := 191) rfl) rfl
theorem gk_822 : Cond.classLink R_Equations 52 R_Fraction ∈ gt_T := gt_m1 (List.mem_of_getElem? (i := 192) rfl) rfl
theorem gk_823 : Cond.methodLink R_Equations 54 gy_Fraction_init ∈ gt_T := gt_m1 (List.mem_of_getElem? (i := 194) rfl) rfl
def gy_Equations_init : MethodName := ⟨R_Equations, "<init>", "(LGearDesk$Calculator;)V"⟩
abbrev gb_Equations_init : ByteArray := prog_3_method_1_code
theorem gk_824 : Cond.code gy_Equations_init gb_Equations_init 2 none ∈ gt_T := gt_m1 (List.mem_of_getElem? (i := 187) rfl) rfl
theorem gm_Equations_init : gw_Mth gy_Equations_init gb_Equations_init 2 none 1 := ⟨gk_824, gk_226, ⟨by decide +kernel, by decide +kernel⟩, by decide +kernel⟩
theorem gd_Equations_init_0 : decode gb_Equations_init 0 = .ok (.aload_n 0, 1) := by decide +kernel
theorem gd_Equations_init_1 : decode gb_Equations_init 1 = .ok (.invokespecial 3, 3) := by decide +kernel
theorem gd_Equations_init_4 : decode gb_Equations_init 4 = .ok (.aload_n 0, 1) := by decide +kernel
theorem gd_Equations_init_5 : decode gb_Equations_init 5 = .ok (.aload_n 1, 1) := by decide +kernel
theorem gd_Equations_init_6 : decode gb_Equations_init 6 = .ok (.putfield 9, 3) := by decide +kernel
theorem gd_Equations_init_9 : decode gb_Equations_init 9 = .ok (.aload_n 0, 1) := by decide +kernel
theorem gd_Equations_init_10 : decode gb_Equations_init 10 = .ok (.ldc 15, 2) := by decide +kernel
theorem gd_Equations_init_12 : decode gb_Equations_init 12 = .ok (.newarray .int, 2) := by decide +kernel
theorem gd_Equations_init_14 : decode gb_Equations_init 14 = .ok (.putfield 16, 3) := by decide +kernel
theorem gd_Equations_init_17 : decode gb_Equations_init 17 = .ok (.aload_n 0, 1) := by decide +kernel
theorem gd_Equations_init_18 : decode gb_Equations_init 18 = .ok (.sipush 3600, 3) := by decide +kernel
theorem gd_Equations_init_21 : decode gb_Equations_init 21 = .ok (.newarray .int, 2) := by decide +kernel
theorem gd_Equations_init_23 : decode gb_Equations_init 23 = .ok (.putfield 20, 3) := by decide +kernel
theorem gd_Equations_init_26 : decode gb_Equations_init 26 = .ok (.aload_n 0, 1) := by decide +kernel
theorem gd_Equations_init_27 : decode gb_Equations_init 27 = .ok (.bipush 60, 2) := by decide +kernel
theorem gd_Equations_init_29 : decode gb_Equations_init 29 = .ok (.newarray .int, 2) := by decide +kernel
theorem gd_Equations_init_31 : decode gb_Equations_init 31 = .ok (.putfield 23, 3) := by decide +kernel
theorem gd_Equations_init_34 : decode gb_Equations_init 34 = .ok (.aload_n 0, 1) := by decide +kernel
theorem gd_Equations_init_35 : decode gb_Equations_init 35 = .ok (.iconst 3, 1) := by decide +kernel
theorem gd_Equations_init_36 : decode gb_Equations_init 36 = .ok (.newarray .int, 2) := by decide +kernel
theorem gd_Equations_init_38 : decode gb_Equations_init 38 = .ok (.putfield 26, 3) := by decide +kernel
theorem gd_Equations_init_41 : decode gb_Equations_init 41 = .ok (.aload_n 0, 1) := by decide +kernel
theorem gd_Equations_init_42 : decode gb_Equations_init 42 = .ok (.iconst 3, 1) := by decide +kernel
theorem gd_Equations_init_43 : decode gb_Equations_init 43 = .ok (.newarray .int, 2) := by decide +kernel
theorem gd_Equations_init_45 : decode gb_Equations_init 45 = .ok (.putfield 29, 3) := by decide +kernel
theorem gd_Equations_init_48 : decode gb_Equations_init 48 = .ok (.aload_n 0, 1) := by decide +kernel
theorem gd_Equations_init_49 : decode gb_Equations_init 49 = .ok (.new 32, 3) := by decide +kernel
theorem gd_Equations_init_52 : decode gb_Equations_init 52 = .ok (.dup, 1) := by decide +kernel
theorem gd_Equations_init_53 : decode gb_Equations_init 53 = .ok (.bipush 48, 2) := by decide +kernel
theorem gd_Equations_init_55 : decode gb_Equations_init 55 = .ok (.invokespecial 36, 3) := by decide +kernel
theorem gd_Equations_init_58 : decode gb_Equations_init 58 = .ok (.putfield 39, 3) := by decide +kernel
theorem gd_Equations_init_61 : decode gb_Equations_init 61 = .ok (.aload_n 0, 1) := by decide +kernel
theorem gd_Equations_init_62 : decode gb_Equations_init 62 = .ok (.new 32, 3) := by decide +kernel
theorem gd_Equations_init_65 : decode gb_Equations_init 65 = .ok (.dup, 1) := by decide +kernel
theorem gd_Equations_init_66 : decode gb_Equations_init 66 = .ok (.bipush 48, 2) := by decide +kernel
theorem gd_Equations_init_68 : decode gb_Equations_init 68 = .ok (.invokespecial 36, 3) := by decide +kernel
theorem gd_Equations_init_71 : decode gb_Equations_init 71 = .ok (.putfield 43, 3) := by decide +kernel
theorem gd_Equations_init_74 : decode gb_Equations_init 74 = .ok (.aload_n 0, 1) := by decide +kernel
theorem gd_Equations_init_75 : decode gb_Equations_init 75 = .ok (.new 32, 3) := by decide +kernel
theorem gd_Equations_init_78 : decode gb_Equations_init 78 = .ok (.dup, 1) := by decide +kernel
theorem gd_Equations_init_79 : decode gb_Equations_init 79 = .ok (.bipush 48, 2) := by decide +kernel
theorem gd_Equations_init_81 : decode gb_Equations_init 81 = .ok (.invokespecial 36, 3) := by decide +kernel
theorem gd_Equations_init_84 : decode gb_Equations_init 84 = .ok (.putfield 46, 3) := by decide +kernel
theorem gd_Equations_init_87 : decode gb_Equations_init 87 = .ok (.aload_n 0, 1) := by decide +kernel
theorem gd_Equations_init_88 : decode gb_Equations_init 88 = .ok (.new 32, 3) := by decide +kernel
theorem gd_Equations_init_91 : decode gb_Equations_init 91 = .ok (.dup, 1) := by decide +kernel
theorem gd_Equations_init_92 : decode gb_Equations_init 92 = .ok (.bipush 48, 2) := by decide +kernel
theorem gd_Equations_init_94 : decode gb_Equations_init 94 = .ok (.invokespecial 36, 3) := by decide +kernel
theorem gd_Equations_init_97 : decode gb_Equations_init 97 = .ok (.putfield 49, 3) := by decide +kernel
theorem gd_Equations_init_100 : decode gb_Equations_init 100 = .ok (.aload_n 0, 1) := by decide +kernel
theorem gd_Equations_init_101 : decode gb_Equations_init 101 = .ok (.new 52, 3) := by decide +kernel
theorem gd_Equations_init_104 : decode gb_Equations_init 104 = .ok (.dup, 1) := by decide +kernel
theorem gd_Equations_init_105 : decode gb_Equations_init 105 = .ok (.bipush 48, 2) := by decide +kernel
theorem gd_Equations_init_107 : decode gb_Equations_init 107 = .ok (.invokespecial 54, 3) := by decide +kernel
theorem gd_Equations_init_110 : decode gb_Equations_init 110 = .ok (.putfield 55, 3) := by decide +kernel
theorem gd_Equations_init_113 : decode gb_Equations_init 113 = .ok (.aload_n 0, 1) := by decide +kernel
theorem gd_Equations_init_114 : decode gb_Equations_init 114 = .ok (.new 32, 3) := by decide +kernel
theorem gd_Equations_init_117 : decode gb_Equations_init 117 = .ok (.dup, 1) := by decide +kernel
theorem gd_Equations_init_118 : decode gb_Equations_init 118 = .ok (.bipush 48, 2) := by decide +kernel
theorem gd_Equations_init_120 : decode gb_Equations_init 120 = .ok (.invokespecial 36, 3) := by decide +kernel
theorem gd_Equations_init_123 : decode gb_Equations_init 123 = .ok (.putfield 59, 3) := by decide +kernel
theorem gd_Equations_init_126 : decode gb_Equations_init 126 = .ok (.aload_n 0, 1) := by decide +kernel
theorem gd_Equations_init_127 : decode gb_Equations_init 127 = .ok (.new 32, 3) := by decide +kernel
theorem gd_Equations_init_130 : decode gb_Equations_init 130 = .ok (.dup, 1) := by decide +kernel
theorem gd_Equations_init_131 : decode gb_Equations_init 131 = .ok (.bipush 48, 2) := by decide +kernel
theorem gd_Equations_init_133 : decode gb_Equations_init 133 = .ok (.invokespecial 36, 3) := by decide +kernel
theorem gd_Equations_init_136 : decode gb_Equations_init 136 = .ok (.putfield 62, 3) := by decide +kernel
theorem gd_Equations_init_139 : decode gb_Equations_init 139 = .ok (.return_, 1) := by decide +kernel
def gf_Equations_init_b0 (F : Nat) (z : gw_Sh)  (u : gw_St) (t0 : Nat) (t1 : Nat) : Option (gw_Sh × gw_St) :=
  gf_nm (gw_wr u t0 0 (t1 + 1)) fun u1 => if ((79200 : Int32) < 0 ∨ 60000000 < ((79200 : Int32)).toNatClampNeg) then none else gf_nm (gw_nz z 10 ((79200 : Int32)).toNatClampNeg) fun z3 => gf_nm (gw_zr u1 z.1) fun u4 => gf_nm (gw_wr u4 t0 1 (z.1 + 1)) fun u9 => if ((3600 : Int32) < 0 ∨ 60000000 < ((3600 : Int32)).toNatClampNeg) then none else gf_nm (gw_nz z3 10 ((3600 : Int32)).toNatClampNeg) fun z11 => gf_nm (gw_zr u9 z3.1) fun u12 => gf_nm (gw_wr u12 t0 2 (z3.1 + 1)) fun u17 => if ((60 : Int32) < 0 ∨ 60000000 < ((60 : Int32)).toNatClampNeg) then none else gf_nm (gw_nz z11 10 ((60 : Int32)).toNatClampNeg) fun z19 => gf_nm (gw_zr u17 z11.1) fun u20 => gf_nm (gw_wr u20 t0 3 (z11.1 + 1)) fun u25 => if ((3 : Int32) < 0 ∨ 60000000 < ((3 : Int32)).toNatClampNeg) then none else gf_nm (gw_nz z19 10 ((3 : Int32)).toNatClampNeg) fun z27 => gf_nm (gw_zr u25 z19.1) fun u28 => gf_nm (gw_wr u28 t0 4 (z19.1 + 1)) fun u33 => if ((3 : Int32) < 0 ∨ 60000000 < ((3 : Int32)).toNatClampNeg) then none else gf_nm (gw_nz z27 10 ((3 : Int32)).toNatClampNeg) fun z35 => gf_nm (gw_zr u33 z27.1) fun u36 => gf_nm (gw_wr u36 t0 5 (z27.1 + 1)) fun u41 => gf_nm (gw_nz z35 8 0) fun z43 => gf_nm (gw_zr u41 z35.1) fun u44 => gf_cz (gf_Whole_init F z43 u44 z35.1 (48 : Int32)) fun z48 u49 => gf_nm (gw_wr u49 t0 6 (z35.1 + 1)) fun u51 => gf_nm (gw_nz z48 8 0) fun z53 => gf_nm (gw_zr u51 z48.1) fun u54 => gf_cz (gf_Whole_init F z53 u54 z48.1 (48 : Int32)) fun z58 u59 => gf_nm (gw_wr u59 t0 7 (z48.1 + 1)) fun u61 => gf_nm (gw_nz z58 8 0) fun z63 => gf_nm (gw_zr u61 z58.1) fun u64 => gf_cz (gf_Whole_init F z63 u64 z58.1 (48 : Int32)) fun z68 u69 => gf_nm (gw_wr u69 t0 8 (z58.1 + 1)) fun u71 => gf_nm (gw_nz z68 8 0) fun z73 => gf_nm (gw_zr u71 z68.1) fun u74 => gf_cz (gf_Whole_init F z73 u74 z68.1 (48 : Int32)) fun z78 u79 => gf_nm (gw_wr u79 t0 9 (z68.1 + 1)) fun u81 => gf_nm (gw_nz z78 6 0) fun z83 => gf_nm (gw_zr u81 z78.1) fun u84 => gf_cz (gf_Fraction_init F z83 u84 z78.1 (48 : Int32)) fun z88 u89 => gf_nm (gw_wr u89 t0 10 (z78.1 + 1)) fun u91 => gf_nm (gw_nz z88 8 0) fun z93 => gf_nm (gw_zr u91 z88.1) fun u94 => gf_cz (gf_Whole_init F z93 u94 z88.1 (48 : Int32)) fun z98 u99 => gf_nm (gw_wr u99 t0 11 (z88.1 + 1)) fun u101 => gf_nm (gw_nz z98 8 0) fun z103 => gf_nm (gw_zr u101 z98.1) fun u104 => gf_cz (gf_Whole_init F z103 u104 z98.1 (48 : Int32)) fun z108 u109 => gf_nm (gw_wr u109 t0 12 (z98.1 + 1)) fun u111 => some (z108, u111)
def gf_Equations_init (F : Nat) (z : gw_Sh) (u : gw_St) (t0 : Nat) (t1 : Nat) : Option (gw_Sh × gw_St) := gf_Equations_init_b0 F z  u t0 t1
set_option maxHeartbeats 4000000 in
set_option maxRecDepth 20000 in
theorem gx_Equations_init_b0 {p : Program} {l : Launch} {e : Env} {s : State} {m : MethodId} {args : Array Value} {below : List Frame} {meth : Method} {c : Code} {D : va_G} {cA : Nat → ClassId} {hs : Nat → Nat} {z z0 : gw_Sh} (F : Nat) {r0 : (gw_Sh × gw_St)} (C : gw_Cx p s m args c gb_Equations_init 2 R_Equations D cA) (hr : meth.sig.returnType = none) (hk : meth.locks = false) (hin : meth.name = "<init>") (hAO : va_AO R_Fraction s) {R : Room} (hR : 3 ≤ R.frames ∧ 106 ≤ R.locals ∧ 22 ≤ R.cells ∧ 83276 ≤ R.slots) (hh : ∀ j, hs (z0.1 + j) = s.heap.size + j) (hz : ∀ p d, gw_ok z0 p d → gw_ok z p d) (hzc : z.1 = z0.1 + 0) (u : gw_St) (t0 : Nat) (t1 : Nat) (o_t0 : gw_ok z t0 4) (o_t1 : gw_ok z t1 7) {H : Heap} {locs : List Loc} {ls : Array Slot} (hW : gw_Wd D cA hs z (gw_A hs z0 s.heap.size) s.heap u H locs) (hl : lv_has ls 2 [(0, .ref (hs t0)), (1, .ref (hs t1))]) (h : gf_Equations_init_b0 F z   u t0 t1 = some r0) : gw_Gc p l e R s m args below meth c D cA hs z0 r0 22 83276 H locs 0 0 ls 0 [] := by
  obtain ⟨hx, hb, hml, hown, hts, hK⟩ := id C
  unfold gf_Equations_init_b0 at h
  refine lv_aload_n hx hb gd_Equations_init_0 rfl (lv_at hl 0 rfl) ?_
  refine W.objInit hx hb hown (hts _ gk_818) (hts _ gk_790) (hts _ gk_791) rfl (by rw [hml]; exact hl.1) rfl gd_Equations_init_1 (Nat.le_trans (m := 3) (Nat.le_of_ble_eq_true rfl) hR.1) (Nat.le_trans (m := 106) (Nat.le_of_ble_eq_true rfl) hR.2.1) ?_
  refine W.eq (g2 := F0 m 4 ls []) rfl ?_
  refine lv_aload_n hx hb gd_Equations_init_4 rfl (lv_at hl 0 rfl) ?_
  refine lv_aload_n hx hb gd_Equations_init_5 rfl (lv_at hl 1 rfl) ?_
  refine gw_putF (k := 0) (ty := 7) (ref := R_Equations) (fty := .object "GearDesk$Calculator") C hW o_t0 o_t1 (by decide) rfl gi_Equations rfl (by decide) rfl rfl gk_276 tf_Equations tf_Equations_ok nm_Equations rfl hin rfl rfl (fun _ => rfl) (fun _ => rfl) gd_Equations_init_6 (fun u1 H locs e2 hW => ?_)
  have h := gf_nm_ok e2 h
  refine lv_aload_n hx hb gd_Equations_init_9 rfl (lv_at hl 0 rfl) ?_
  refine lv_ldc (v := 79200) hx hb hown (hts _ gk_819) gd_Equations_init_10 ?_
  obtain ⟨g8, h⟩ := gf_if_ok h
  refine gw_frW hW hh hzc (fun hF => ?_)
  refine gw_newi C hW (fun _ h => Or.inr h) hF gk_792 g8 (Nat.le_trans (m := 22) (by decide +kernel) hR.2.2.1) (Nat.le_trans (m := 83276) (by decide +kernel) hR.2.2.2) gd_Equations_init_12 (fun z3 u4 H e5 e6 hW hF o7 hz9 => ?_)
  have h := gf_nm_ok e5 h
  have h := gf_nm_ok e6 h
  have o_t0 := hz9 _ _ o_t0
  have o_t1 := hz9 _ _ o_t1
  have hz := fun p d h => hz9 p d (hz p d h)
  refine W.widen (k := 1) (n := 79200) (by decide +kernel) (by decide +kernel) ?_
  have hzc : z3.1 = z0.1 + 1 := gw_hzc (b := z.1) (c := 1) (by rw [e5]; rfl) hzc (by decide)
  refine gw_putF (k := 1) (ty := 10) (ref := R_Equations) (fty := .array .int) C hW o_t0 o7 (by decide) rfl gi_Equations rfl (by decide) rfl rfl gk_243 tf_Equations tf_Equations_ok nm_Equations rfl hin rfl rfl (fun _ => rfl) (fun _ => rfl) gd_Equations_init_14 (fun u9 H locs e10 hW => ?_)
  have h := gf_nm_ok e10 h
  refine lv_aload_n hx hb gd_Equations_init_17 rfl (lv_at hl 0 rfl) ?_
  refine lv_sipush (v := 3600) hx hb gd_Equations_init_18 (by decide) ?_
  obtain ⟨g16, h⟩ := gf_if_ok h
  refine gw_frW hW hh hzc (fun hF => ?_)
  refine gw_newi C hW (fun _ h => Or.inr h) hF gk_792 g16 (Nat.le_trans (m := 22) (by decide +kernel) hR.2.2.1) (Nat.le_trans (m := 83276) (by decide +kernel) hR.2.2.2) gd_Equations_init_21 (fun z11 u12 H e13 e14 hW hF o15 hz9 => ?_)
  have h := gf_nm_ok e13 h
  have h := gf_nm_ok e14 h
  have o_t0 := hz9 _ _ o_t0
  have o_t1 := hz9 _ _ o_t1
  have o7 := hz9 _ _ o7
  have hz := fun p d h => hz9 p d (hz p d h)
  refine W.widen (k := 2) (n := 82800) (by decide +kernel) (by decide +kernel) ?_
  have hzc : z11.1 = z0.1 + 2 := gw_hzc (b := z3.1) (c := 1) (by rw [e13]; rfl) hzc (by decide)
  refine gw_putF (k := 2) (ty := 10) (ref := R_Equations) (fty := .array .int) C hW o_t0 o15 (by decide) rfl gi_Equations rfl (by decide) rfl rfl gk_237 tf_Equations tf_Equations_ok nm_Equations rfl hin rfl rfl (fun _ => rfl) (fun _ => rfl) gd_Equations_init_23 (fun u17 H locs e18 hW => ?_)
  have h := gf_nm_ok e18 h
  refine lv_aload_n hx hb gd_Equations_init_26 rfl (lv_at hl 0 rfl) ?_
  refine lv_bipush (v := 60) hx hb gd_Equations_init_27 (by decide) ?_
  obtain ⟨g24, h⟩ := gf_if_ok h
  refine gw_frW hW hh hzc (fun hF => ?_)
  refine gw_newi C hW (fun _ h => Or.inr h) hF gk_792 g24 (Nat.le_trans (m := 22) (by decide +kernel) hR.2.2.1) (Nat.le_trans (m := 83276) (by decide +kernel) hR.2.2.2) gd_Equations_init_29 (fun z19 u20 H e21 e22 hW hF o23 hz9 => ?_)
  have h := gf_nm_ok e21 h
  have h := gf_nm_ok e22 h
  have o_t0 := hz9 _ _ o_t0
  have o_t1 := hz9 _ _ o_t1
  have o7 := hz9 _ _ o7
  have o15 := hz9 _ _ o15
  have hz := fun p d h => hz9 p d (hz p d h)
  refine W.widen (k := 3) (n := 82860) (by decide +kernel) (by decide +kernel) ?_
  have hzc : z19.1 = z0.1 + 3 := gw_hzc (b := z11.1) (c := 1) (by rw [e21]; rfl) hzc (by decide)
  refine gw_putF (k := 3) (ty := 10) (ref := R_Equations) (fty := .array .int) C hW o_t0 o23 (by decide) rfl gi_Equations rfl (by decide) rfl rfl gk_253 tf_Equations tf_Equations_ok nm_Equations rfl hin rfl rfl (fun _ => rfl) (fun _ => rfl) gd_Equations_init_31 (fun u25 H locs e26 hW => ?_)
  have h := gf_nm_ok e26 h
  refine lv_aload_n hx hb gd_Equations_init_34 rfl (lv_at hl 0 rfl) ?_
  refine lv_iconst (v := 3) hx hb gd_Equations_init_35 (by decide) ?_
  obtain ⟨g32, h⟩ := gf_if_ok h
  refine gw_frW hW hh hzc (fun hF => ?_)
  refine gw_newi C hW (fun _ h => Or.inr h) hF gk_792 g32 (Nat.le_trans (m := 22) (by decide +kernel) hR.2.2.1) (Nat.le_trans (m := 83276) (by decide +kernel) hR.2.2.2) gd_Equations_init_36 (fun z27 u28 H e29 e30 hW hF o31 hz9 => ?_)
  have h := gf_nm_ok e29 h
  have h := gf_nm_ok e30 h
  have o_t0 := hz9 _ _ o_t0
  have o_t1 := hz9 _ _ o_t1
  have o7 := hz9 _ _ o7
  have o15 := hz9 _ _ o15
  have o23 := hz9 _ _ o23
  have hz := fun p d h => hz9 p d (hz p d h)
  refine W.widen (k := 4) (n := 82863) (by decide +kernel) (by decide +kernel) ?_
  have hzc : z27.1 = z0.1 + 4 := gw_hzc (b := z19.1) (c := 1) (by rw [e29]; rfl) hzc (by decide)
  refine gw_putF (k := 4) (ty := 10) (ref := R_Equations) (fty := .array .int) C hW o_t0 o31 (by decide) rfl gi_Equations rfl (by decide) rfl rfl gk_223 tf_Equations tf_Equations_ok nm_Equations rfl hin rfl rfl (fun _ => rfl) (fun _ => rfl) gd_Equations_init_38 (fun u33 H locs e34 hW => ?_)
  have h := gf_nm_ok e34 h
  refine lv_aload_n hx hb gd_Equations_init_41 rfl (lv_at hl 0 rfl) ?_
  refine lv_iconst (v := 3) hx hb gd_Equations_init_42 (by decide) ?_
  obtain ⟨g40, h⟩ := gf_if_ok h
  refine gw_frW hW hh hzc (fun hF => ?_)
  refine gw_newi C hW (fun _ h => Or.inr h) hF gk_792 g40 (Nat.le_trans (m := 22) (by decide +kernel) hR.2.2.1) (Nat.le_trans (m := 83276) (by decide +kernel) hR.2.2.2) gd_Equations_init_43 (fun z35 u36 H e37 e38 hW hF o39 hz9 => ?_)
  have h := gf_nm_ok e37 h
  have h := gf_nm_ok e38 h
  have o_t0 := hz9 _ _ o_t0
  have o_t1 := hz9 _ _ o_t1
  have o7 := hz9 _ _ o7
  have o15 := hz9 _ _ o15
  have o23 := hz9 _ _ o23
  have o31 := hz9 _ _ o31
  have hz := fun p d h => hz9 p d (hz p d h)
  refine W.widen (k := 5) (n := 82866) (by decide +kernel) (by decide +kernel) ?_
  have hzc : z35.1 = z0.1 + 5 := gw_hzc (b := z27.1) (c := 1) (by rw [e37]; rfl) hzc (by decide)
  refine gw_putF (k := 5) (ty := 10) (ref := R_Equations) (fty := .array .int) C hW o_t0 o39 (by decide) rfl gi_Equations rfl (by decide) rfl rfl gk_225 tf_Equations tf_Equations_ok nm_Equations rfl hin rfl rfl (fun _ => rfl) (fun _ => rfl) gd_Equations_init_45 (fun u41 H locs e42 hW => ?_)
  have h := gf_nm_ok e42 h
  refine lv_aload_n hx hb gd_Equations_init_48 rfl (lv_at hl 0 rfl) ?_
  refine gw_frW hW hh hzc (fun hF => ?_)
  refine gw_new (ci := 8) C hW (fun _ h => Or.inr h) hF (by decide) rfl gi_Whole rfl tf_Whole tf_Whole_ok df_Whole gk_820 gk_796 gk_16 (Nat.le_trans (m := 22) (by decide +kernel) hR.2.2.1) (Nat.le_trans (m := 83276) (by decide +kernel) hR.2.2.2) gd_Equations_init_49 (fun z43 u44 H e45 e46 hW hF o47 hz9 => ?_)
  have h := gf_nm_ok e45 h
  have h := gf_nm_ok e46 h
  have o_t0 := hz9 _ _ o_t0
  have o_t1 := hz9 _ _ o_t1
  have o7 := hz9 _ _ o7
  have o15 := hz9 _ _ o15
  have o23 := hz9 _ _ o23
  have o31 := hz9 _ _ o31
  have o39 := hz9 _ _ o39
  have hz := fun p d h => hz9 p d (hz p d h)
  refine W.widen (k := 6) (n := 82869) (by decide +kernel) (by decide +kernel) ?_
  have hzc : z43.1 = z0.1 + 6 := gw_hzc (b := z35.1) (c := 1) (by rw [e45]; rfl) hzc (by decide)
  refine lv_dup hx hb gd_Equations_init_52 rfl ?_
  refine lv_bipush (v := 48) hx hb gd_Equations_init_53 (by decide) ?_
  obtain ⟨z48, u49, d50, h⟩ := gf_cz_ok h
  refine gw_frW hW hh hzc (fun hF => ?_)
  refine gw_callI (As := [.int (48 : Int32)]) (rest := [.ref (hs z35.1), .ref (hs t0)]) C hAO hW (fun _ h => Or.inr h) hl.1 gm_Whole_init (gc_Whole_init l F o47 d50 _ hF) gk_821 gk_798 rfl rfl rfl ⟨(Nat.le_trans (m := 3) (Nat.le_of_ble_eq_true rfl) hR.1), (Nat.le_trans (m := 106) (Nat.le_of_ble_eq_true rfl) hR.2.1)⟩ ⟨(Nat.le_trans (m := 22) (by decide +kernel) hR.2.2.1), (Nat.le_trans (m := 83276) (by decide +kernel) hR.2.2.2)⟩ rfl rfl (Nat.le_of_ble_eq_true rfl) gd_Equations_init_55 (fun H locs hW hc9 hz9 => ?_)
  have o_t0 := hz9 _ _ o_t0
  have o_t1 := hz9 _ _ o_t1
  have o7 := hz9 _ _ o7
  have o15 := hz9 _ _ o15
  have o23 := hz9 _ _ o23
  have o31 := hz9 _ _ o31
  have o39 := hz9 _ _ o39
  have o47 := hz9 _ _ o47
  have hz := fun p d h => hz9 p d (hz p d h)
  refine W.widen (k := 7) (n := 82917) (by decide +kernel) (by decide +kernel) ?_
  have hzc : z48.1 = z0.1 + 7 := gw_hzc (c := 1) hc9 hzc (by decide)
  refine gw_putF (k := 6) (ty := 8) (ref := R_Equations) (fty := .object "GearDesk$Whole") C hW o_t0 o47 (by decide) rfl gi_Equations rfl (by decide) rfl rfl gk_254 tf_Equations tf_Equations_ok nm_Equations rfl hin rfl rfl (fun _ => rfl) (fun _ => rfl) gd_Equations_init_58 (fun u51 H locs e52 hW => ?_)
  have h := gf_nm_ok e52 h
  refine lv_aload_n hx hb gd_Equations_init_61 rfl (lv_at hl 0 rfl) ?_
  refine gw_frW hW hh hzc (fun hF => ?_)
  refine gw_new (ci := 8) C hW (fun _ h => Or.inr h) hF (by decide) rfl gi_Whole rfl tf_Whole tf_Whole_ok df_Whole gk_820 gk_796 gk_16 (Nat.le_trans (m := 22) (by decide +kernel) hR.2.2.1) (Nat.le_trans (m := 83276) (by decide +kernel) hR.2.2.2) gd_Equations_init_62 (fun z53 u54 H e55 e56 hW hF o57 hz9 => ?_)
  have h := gf_nm_ok e55 h
  have h := gf_nm_ok e56 h
  have o_t0 := hz9 _ _ o_t0
  have o_t1 := hz9 _ _ o_t1
  have o7 := hz9 _ _ o7
  have o15 := hz9 _ _ o15
  have o23 := hz9 _ _ o23
  have o31 := hz9 _ _ o31
  have o39 := hz9 _ _ o39
  have o47 := hz9 _ _ o47
  have hz := fun p d h => hz9 p d (hz p d h)
  refine W.widen (k := 8) (n := 82920) (by decide +kernel) (by decide +kernel) ?_
  have hzc : z53.1 = z0.1 + 8 := gw_hzc (b := z48.1) (c := 1) (by rw [e55]; rfl) hzc (by decide)
  refine lv_dup hx hb gd_Equations_init_65 rfl ?_
  refine lv_bipush (v := 48) hx hb gd_Equations_init_66 (by decide) ?_
  obtain ⟨z58, u59, d60, h⟩ := gf_cz_ok h
  refine gw_frW hW hh hzc (fun hF => ?_)
  refine gw_callI (As := [.int (48 : Int32)]) (rest := [.ref (hs z48.1), .ref (hs t0)]) C hAO hW (fun _ h => Or.inr h) hl.1 gm_Whole_init (gc_Whole_init l F o57 d60 _ hF) gk_821 gk_798 rfl rfl rfl ⟨(Nat.le_trans (m := 3) (Nat.le_of_ble_eq_true rfl) hR.1), (Nat.le_trans (m := 106) (Nat.le_of_ble_eq_true rfl) hR.2.1)⟩ ⟨(Nat.le_trans (m := 22) (by decide +kernel) hR.2.2.1), (Nat.le_trans (m := 83276) (by decide +kernel) hR.2.2.2)⟩ rfl rfl (Nat.le_of_ble_eq_true rfl) gd_Equations_init_68 (fun H locs hW hc9 hz9 => ?_)
  have o_t0 := hz9 _ _ o_t0
  have o_t1 := hz9 _ _ o_t1
  have o7 := hz9 _ _ o7
  have o15 := hz9 _ _ o15
  have o23 := hz9 _ _ o23
  have o31 := hz9 _ _ o31
  have o39 := hz9 _ _ o39
  have o47 := hz9 _ _ o47
  have o57 := hz9 _ _ o57
  have hz := fun p d h => hz9 p d (hz p d h)
  refine W.widen (k := 9) (n := 82968) (by decide +kernel) (by decide +kernel) ?_
  have hzc : z58.1 = z0.1 + 9 := gw_hzc (c := 1) hc9 hzc (by decide)
  refine gw_putF (k := 7) (ty := 8) (ref := R_Equations) (fty := .object "GearDesk$Whole") C hW o_t0 o57 (by decide) rfl gi_Equations rfl (by decide) rfl rfl gk_258 tf_Equations tf_Equations_ok nm_Equations rfl hin rfl rfl (fun _ => rfl) (fun _ => rfl) gd_Equations_init_71 (fun u61 H locs e62 hW => ?_)
  have h := gf_nm_ok e62 h
  refine lv_aload_n hx hb gd_Equations_init_74 rfl (lv_at hl 0 rfl) ?_
  refine gw_frW hW hh hzc (fun hF => ?_)
  refine gw_new (ci := 8) C hW (fun _ h => Or.inr h) hF (by decide) rfl gi_Whole rfl tf_Whole tf_Whole_ok df_Whole gk_820 gk_796 gk_16 (Nat.le_trans (m := 22) (by decide +kernel) hR.2.2.1) (Nat.le_trans (m := 83276) (by decide +kernel) hR.2.2.2) gd_Equations_init_75 (fun z63 u64 H e65 e66 hW hF o67 hz9 => ?_)
  have h := gf_nm_ok e65 h
  have h := gf_nm_ok e66 h
  have o_t0 := hz9 _ _ o_t0
  have o_t1 := hz9 _ _ o_t1
  have o7 := hz9 _ _ o7
  have o15 := hz9 _ _ o15
  have o23 := hz9 _ _ o23
  have o31 := hz9 _ _ o31
  have o39 := hz9 _ _ o39
  have o47 := hz9 _ _ o47
  have o57 := hz9 _ _ o57
  have hz := fun p d h => hz9 p d (hz p d h)
  refine W.widen (k := 10) (n := 82971) (by decide +kernel) (by decide +kernel) ?_
  have hzc : z63.1 = z0.1 + 10 := gw_hzc (b := z58.1) (c := 1) (by rw [e65]; rfl) hzc (by decide)
  refine lv_dup hx hb gd_Equations_init_78 rfl ?_
  refine lv_bipush (v := 48) hx hb gd_Equations_init_79 (by decide) ?_
  obtain ⟨z68, u69, d70, h⟩ := gf_cz_ok h
  refine gw_frW hW hh hzc (fun hF => ?_)
  refine gw_callI (As := [.int (48 : Int32)]) (rest := [.ref (hs z58.1), .ref (hs t0)]) C hAO hW (fun _ h => Or.inr h) hl.1 gm_Whole_init (gc_Whole_init l F o67 d70 _ hF) gk_821 gk_798 rfl rfl rfl ⟨(Nat.le_trans (m := 3) (Nat.le_of_ble_eq_true rfl) hR.1), (Nat.le_trans (m := 106) (Nat.le_of_ble_eq_true rfl) hR.2.1)⟩ ⟨(Nat.le_trans (m := 22) (by decide +kernel) hR.2.2.1), (Nat.le_trans (m := 83276) (by decide +kernel) hR.2.2.2)⟩ rfl rfl (Nat.le_of_ble_eq_true rfl) gd_Equations_init_81 (fun H locs hW hc9 hz9 => ?_)
  have o_t0 := hz9 _ _ o_t0
  have o_t1 := hz9 _ _ o_t1
  have o7 := hz9 _ _ o7
  have o15 := hz9 _ _ o15
  have o23 := hz9 _ _ o23
  have o31 := hz9 _ _ o31
  have o39 := hz9 _ _ o39
  have o47 := hz9 _ _ o47
  have o57 := hz9 _ _ o57
  have o67 := hz9 _ _ o67
  have hz := fun p d h => hz9 p d (hz p d h)
  refine W.widen (k := 11) (n := 83019) (by decide +kernel) (by decide +kernel) ?_
  have hzc : z68.1 = z0.1 + 11 := gw_hzc (c := 1) hc9 hzc (by decide)
  refine gw_putF (k := 8) (ty := 8) (ref := R_Equations) (fty := .object "GearDesk$Whole") C hW o_t0 o67 (by decide) rfl gi_Equations rfl (by decide) rfl rfl gk_260 tf_Equations tf_Equations_ok nm_Equations rfl hin rfl rfl (fun _ => rfl) (fun _ => rfl) gd_Equations_init_84 (fun u71 H locs e72 hW => ?_)
  have h := gf_nm_ok e72 h
  refine lv_aload_n hx hb gd_Equations_init_87 rfl (lv_at hl 0 rfl) ?_
  refine gw_frW hW hh hzc (fun hF => ?_)
  refine gw_new (ci := 8) C hW (fun _ h => Or.inr h) hF (by decide) rfl gi_Whole rfl tf_Whole tf_Whole_ok df_Whole gk_820 gk_796 gk_16 (Nat.le_trans (m := 22) (by decide +kernel) hR.2.2.1) (Nat.le_trans (m := 83276) (by decide +kernel) hR.2.2.2) gd_Equations_init_88 (fun z73 u74 H e75 e76 hW hF o77 hz9 => ?_)
  have h := gf_nm_ok e75 h
  have h := gf_nm_ok e76 h
  have o_t0 := hz9 _ _ o_t0
  have o_t1 := hz9 _ _ o_t1
  have o7 := hz9 _ _ o7
  have o15 := hz9 _ _ o15
  have o23 := hz9 _ _ o23
  have o31 := hz9 _ _ o31
  have o39 := hz9 _ _ o39
  have o47 := hz9 _ _ o47
  have o57 := hz9 _ _ o57
  have o67 := hz9 _ _ o67
  have hz := fun p d h => hz9 p d (hz p d h)
  refine W.widen (k := 12) (n := 83022) (by decide +kernel) (by decide +kernel) ?_
  have hzc : z73.1 = z0.1 + 12 := gw_hzc (b := z68.1) (c := 1) (by rw [e75]; rfl) hzc (by decide)
  refine lv_dup hx hb gd_Equations_init_91 rfl ?_
  refine lv_bipush (v := 48) hx hb gd_Equations_init_92 (by decide) ?_
  obtain ⟨z78, u79, d80, h⟩ := gf_cz_ok h
  refine gw_frW hW hh hzc (fun hF => ?_)
  refine gw_callI (As := [.int (48 : Int32)]) (rest := [.ref (hs z68.1), .ref (hs t0)]) C hAO hW (fun _ h => Or.inr h) hl.1 gm_Whole_init (gc_Whole_init l F o77 d80 _ hF) gk_821 gk_798 rfl rfl rfl ⟨(Nat.le_trans (m := 3) (Nat.le_of_ble_eq_true rfl) hR.1), (Nat.le_trans (m := 106) (Nat.le_of_ble_eq_true rfl) hR.2.1)⟩ ⟨(Nat.le_trans (m := 22) (by decide +kernel) hR.2.2.1), (Nat.le_trans (m := 83276) (by decide +kernel) hR.2.2.2)⟩ rfl rfl (Nat.le_of_ble_eq_true rfl) gd_Equations_init_94 (fun H locs hW hc9 hz9 => ?_)
  have o_t0 := hz9 _ _ o_t0
  have o_t1 := hz9 _ _ o_t1
  have o7 := hz9 _ _ o7
  have o15 := hz9 _ _ o15
  have o23 := hz9 _ _ o23
  have o31 := hz9 _ _ o31
  have o39 := hz9 _ _ o39
  have o47 := hz9 _ _ o47
  have o57 := hz9 _ _ o57
  have o67 := hz9 _ _ o67
  have o77 := hz9 _ _ o77
  have hz := fun p d h => hz9 p d (hz p d h)
  refine W.widen (k := 13) (n := 83070) (by decide +kernel) (by decide +kernel) ?_
  have hzc : z78.1 = z0.1 + 13 := gw_hzc (c := 1) hc9 hzc (by decide)
  refine gw_putF (k := 9) (ty := 8) (ref := R_Equations) (fty := .object "GearDesk$Whole") C hW o_t0 o77 (by decide) rfl gi_Equations rfl (by decide) rfl rfl gk_248 tf_Equations tf_Equations_ok nm_Equations rfl hin rfl rfl (fun _ => rfl) (fun _ => rfl) gd_Equations_init_97 (fun u81 H locs e82 hW => ?_)
  have h := gf_nm_ok e82 h
  refine lv_aload_n hx hb gd_Equations_init_100 rfl (lv_at hl 0 rfl) ?_
  refine gw_frW hW hh hzc (fun hF => ?_)
  refine gw_new (ci := 6) C hW (fun _ h => Or.inr h) hF (by decide) rfl gi_Fraction rfl tf_Fraction tf_Fraction_ok df_Fraction gk_822 gk_812 gk_59 (Nat.le_trans (m := 22) (by decide +kernel) hR.2.2.1) (Nat.le_trans (m := 83276) (by decide +kernel) hR.2.2.2) gd_Equations_init_101 (fun z83 u84 H e85 e86 hW hF o87 hz9 => ?_)
  have h := gf_nm_ok e85 h
  have h := gf_nm_ok e86 h
  have o_t0 := hz9 _ _ o_t0
  have o_t1 := hz9 _ _ o_t1
  have o7 := hz9 _ _ o7
  have o15 := hz9 _ _ o15
  have o23 := hz9 _ _ o23
  have o31 := hz9 _ _ o31
  have o39 := hz9 _ _ o39
  have o47 := hz9 _ _ o47
  have o57 := hz9 _ _ o57
  have o67 := hz9 _ _ o67
  have o77 := hz9 _ _ o77
  have hz := fun p d h => hz9 p d (hz p d h)
  refine W.widen (k := 14) (n := 83072) (by decide +kernel) (by decide +kernel) ?_
  have hzc : z83.1 = z0.1 + 14 := gw_hzc (b := z78.1) (c := 1) (by rw [e85]; rfl) hzc (by decide)
  refine lv_dup hx hb gd_Equations_init_104 rfl ?_
  refine lv_bipush (v := 48) hx hb gd_Equations_init_105 (by decide) ?_
  obtain ⟨z88, u89, d90, h⟩ := gf_cz_ok h
  refine gw_frW hW hh hzc (fun hF => ?_)
  refine gw_callI (As := [.int (48 : Int32)]) (rest := [.ref (hs z78.1), .ref (hs t0)]) C hAO hW (fun _ h => Or.inr h) hl.1 gm_Fraction_init (gc_Fraction_init l F o87 d90 _ hF) gk_823 gk_814 rfl rfl rfl ⟨(Nat.le_trans (m := 3) (Nat.le_of_ble_eq_true rfl) hR.1), (Nat.le_trans (m := 106) (Nat.le_of_ble_eq_true rfl) hR.2.1)⟩ ⟨(Nat.le_trans (m := 22) (by decide +kernel) hR.2.2.1), (Nat.le_trans (m := 83276) (by decide +kernel) hR.2.2.2)⟩ rfl rfl (Nat.le_of_ble_eq_true rfl) gd_Equations_init_107 (fun H locs hW hc9 hz9 => ?_)
  have o_t0 := hz9 _ _ o_t0
  have o_t1 := hz9 _ _ o_t1
  have o7 := hz9 _ _ o7
  have o15 := hz9 _ _ o15
  have o23 := hz9 _ _ o23
  have o31 := hz9 _ _ o31
  have o39 := hz9 _ _ o39
  have o47 := hz9 _ _ o47
  have o57 := hz9 _ _ o57
  have o67 := hz9 _ _ o67
  have o77 := hz9 _ _ o77
  have o87 := hz9 _ _ o87
  have hz := fun p d h => hz9 p d (hz p d h)
  refine W.widen (k := 18) (n := 83174) (by decide +kernel) (by decide +kernel) ?_
  have hzc : z88.1 = z0.1 + 18 := gw_hzc (c := 4) hc9 hzc (by decide)
  refine gw_putF (k := 10) (ty := 6) (ref := R_Equations) (fty := .object "GearDesk$Fraction") C hW o_t0 o87 (by decide) rfl gi_Equations rfl (by decide) rfl rfl gk_299 tf_Equations tf_Equations_ok nm_Equations rfl hin rfl rfl (fun _ => rfl) (fun _ => rfl) gd_Equations_init_110 (fun u91 H locs e92 hW => ?_)
  have h := gf_nm_ok e92 h
  refine lv_aload_n hx hb gd_Equations_init_113 rfl (lv_at hl 0 rfl) ?_
  refine gw_frW hW hh hzc (fun hF => ?_)
  refine gw_new (ci := 8) C hW (fun _ h => Or.inr h) hF (by decide) rfl gi_Whole rfl tf_Whole tf_Whole_ok df_Whole gk_820 gk_796 gk_16 (Nat.le_trans (m := 22) (by decide +kernel) hR.2.2.1) (Nat.le_trans (m := 83276) (by decide +kernel) hR.2.2.2) gd_Equations_init_114 (fun z93 u94 H e95 e96 hW hF o97 hz9 => ?_)
  have h := gf_nm_ok e95 h
  have h := gf_nm_ok e96 h
  have o_t0 := hz9 _ _ o_t0
  have o_t1 := hz9 _ _ o_t1
  have o7 := hz9 _ _ o7
  have o15 := hz9 _ _ o15
  have o23 := hz9 _ _ o23
  have o31 := hz9 _ _ o31
  have o39 := hz9 _ _ o39
  have o47 := hz9 _ _ o47
  have o57 := hz9 _ _ o57
  have o67 := hz9 _ _ o67
  have o77 := hz9 _ _ o77
  have o87 := hz9 _ _ o87
  have hz := fun p d h => hz9 p d (hz p d h)
  refine W.widen (k := 19) (n := 83177) (by decide +kernel) (by decide +kernel) ?_
  have hzc : z93.1 = z0.1 + 19 := gw_hzc (b := z88.1) (c := 1) (by rw [e95]; rfl) hzc (by decide)
  refine lv_dup hx hb gd_Equations_init_117 rfl ?_
  refine lv_bipush (v := 48) hx hb gd_Equations_init_118 (by decide) ?_
  obtain ⟨z98, u99, d100, h⟩ := gf_cz_ok h
  refine gw_frW hW hh hzc (fun hF => ?_)
  refine gw_callI (As := [.int (48 : Int32)]) (rest := [.ref (hs z88.1), .ref (hs t0)]) C hAO hW (fun _ h => Or.inr h) hl.1 gm_Whole_init (gc_Whole_init l F o97 d100 _ hF) gk_821 gk_798 rfl rfl rfl ⟨(Nat.le_trans (m := 3) (Nat.le_of_ble_eq_true rfl) hR.1), (Nat.le_trans (m := 106) (Nat.le_of_ble_eq_true rfl) hR.2.1)⟩ ⟨(Nat.le_trans (m := 22) (by decide +kernel) hR.2.2.1), (Nat.le_trans (m := 83276) (by decide +kernel) hR.2.2.2)⟩ rfl rfl (Nat.le_of_ble_eq_true rfl) gd_Equations_init_120 (fun H locs hW hc9 hz9 => ?_)
  have o_t0 := hz9 _ _ o_t0
  have o_t1 := hz9 _ _ o_t1
  have o7 := hz9 _ _ o7
  have o15 := hz9 _ _ o15
  have o23 := hz9 _ _ o23
  have o31 := hz9 _ _ o31
  have o39 := hz9 _ _ o39
  have o47 := hz9 _ _ o47
  have o57 := hz9 _ _ o57
  have o67 := hz9 _ _ o67
  have o77 := hz9 _ _ o77
  have o87 := hz9 _ _ o87
  have o97 := hz9 _ _ o97
  have hz := fun p d h => hz9 p d (hz p d h)
  refine W.widen (k := 20) (n := 83225) (by decide +kernel) (by decide +kernel) ?_
  have hzc : z98.1 = z0.1 + 20 := gw_hzc (c := 1) hc9 hzc (by decide)
  refine gw_putr (k := 11) (ty := 8) (ref := R_Equations) (fty := .object R_Whole) C hW o_t0 o97 (by decide) rfl gi_Equations rfl (by decide) rfl rfl gk_267 tf_Equations tf_Equations_ok nm_Equations rfl rfl (fun _ => rfl) (fun _ => rfl) gd_Equations_init_123 (fun u101 H locs e102 hW => ?_)
  have h := gf_nm_ok e102 h
  refine lv_aload_n hx hb gd_Equations_init_126 rfl (lv_at hl 0 rfl) ?_
  refine gw_frW hW hh hzc (fun hF => ?_)
  refine gw_new (ci := 8) C hW (fun _ h => Or.inr h) hF (by decide) rfl gi_Whole rfl tf_Whole tf_Whole_ok df_Whole gk_820 gk_796 gk_16 (Nat.le_trans (m := 22) (by decide +kernel) hR.2.2.1) (Nat.le_trans (m := 83276) (by decide +kernel) hR.2.2.2) gd_Equations_init_127 (fun z103 u104 H e105 e106 hW hF o107 hz9 => ?_)
  have h := gf_nm_ok e105 h
  have h := gf_nm_ok e106 h
  have o_t0 := hz9 _ _ o_t0
  have o_t1 := hz9 _ _ o_t1
  have o7 := hz9 _ _ o7
  have o15 := hz9 _ _ o15
  have o23 := hz9 _ _ o23
  have o31 := hz9 _ _ o31
  have o39 := hz9 _ _ o39
  have o47 := hz9 _ _ o47
  have o57 := hz9 _ _ o57
  have o67 := hz9 _ _ o67
  have o77 := hz9 _ _ o77
  have o87 := hz9 _ _ o87
  have o97 := hz9 _ _ o97
  have hz := fun p d h => hz9 p d (hz p d h)
  refine W.widen (k := 21) (n := 83228) (by decide +kernel) (by decide +kernel) ?_
  have hzc : z103.1 = z0.1 + 21 := gw_hzc (b := z98.1) (c := 1) (by rw [e105]; rfl) hzc (by decide)
  refine lv_dup hx hb gd_Equations_init_130 rfl ?_
  refine lv_bipush (v := 48) hx hb gd_Equations_init_131 (by decide) ?_
  obtain ⟨z108, u109, d110, h⟩ := gf_cz_ok h
  refine gw_frW hW hh hzc (fun hF => ?_)
  refine gw_callI (As := [.int (48 : Int32)]) (rest := [.ref (hs z98.1), .ref (hs t0)]) C hAO hW (fun _ h => Or.inr h) hl.1 gm_Whole_init (gc_Whole_init l F o107 d110 _ hF) gk_821 gk_798 rfl rfl rfl ⟨(Nat.le_trans (m := 3) (Nat.le_of_ble_eq_true rfl) hR.1), (Nat.le_trans (m := 106) (Nat.le_of_ble_eq_true rfl) hR.2.1)⟩ ⟨(Nat.le_trans (m := 22) (by decide +kernel) hR.2.2.1), (Nat.le_trans (m := 83276) (by decide +kernel) hR.2.2.2)⟩ rfl rfl (Nat.le_of_ble_eq_true rfl) gd_Equations_init_133 (fun H locs hW hc9 hz9 => ?_)
  have o_t0 := hz9 _ _ o_t0
  have o_t1 := hz9 _ _ o_t1
  have o7 := hz9 _ _ o7
  have o15 := hz9 _ _ o15
  have o23 := hz9 _ _ o23
  have o31 := hz9 _ _ o31
  have o39 := hz9 _ _ o39
  have o47 := hz9 _ _ o47
  have o57 := hz9 _ _ o57
  have o67 := hz9 _ _ o67
  have o77 := hz9 _ _ o77
  have o87 := hz9 _ _ o87
  have o97 := hz9 _ _ o97
  have o107 := hz9 _ _ o107
  have hz := fun p d h => hz9 p d (hz p d h)
  refine W.widen (k := 22) (n := 83276) (by decide +kernel) (by decide +kernel) ?_
  have hzc : z108.1 = z0.1 + 22 := gw_hzc (c := 1) hc9 hzc (by decide)
  refine gw_putr (k := 12) (ty := 8) (ref := R_Equations) (fty := .object R_Whole) C hW o_t0 o107 (by decide) rfl gi_Equations rfl (by decide) rfl rfl gk_275 tf_Equations tf_Equations_ok nm_Equations rfl rfl (fun _ => rfl) (fun _ => rfl) gd_Equations_init_136 (fun u111 H locs e112 hW => ?_)
  have h := gf_nm_ok e112 h
  obtain rfl := Option.some.inj h
  exact gw_vretC C hW hzc hz hr hk gd_Equations_init_139

set_option maxRecDepth 20000 in
theorem gc_Equations_init (l : Launch) {D : va_G} {cA : Nat → ClassId} {hs : Nat → Nat} {z : gw_Sh} (F : Nat) {u : gw_St} {r0 : gw_Sh × gw_St} {t0 : Nat} {t1 : Nat} (o_t0 : gw_ok z t0 4) (o_t1 : gw_ok z t1 7) (h : gf_Equations_init F z u t0 t1 = some r0) (sz : Nat) (hh : ∀ j, hs (z.1 + j) = sz + j) : gw_Mc l gy_Equations_init gb_Equations_init 2 (gw_rc 3 106 22 83276) [.ref (hs t0), .ref (hs t1)] D cA hs z u sz 22 83276 r0 := by
  refine gw_enterC (by decide) (Nat.le_of_ble_eq_true rfl) hh ?_
  intro p e s m below meth c ls hsz C hW hh hAO hr hk hin hl
  subst hsz
  exact gx_Equations_init_b0 F C hr hk hin hAO (gw_rc_ok 3 106 22 83276) hh (fun _ _ h => h) rfl u t0 t1 o_t0 o_t1 hW (lv_sub hl [0, 1] rfl) h
