theorem gk_832 : Cond.methodLink R_Speeds 3 Lib.objectInit ∈ gt_T := gt_m2 (List.mem_of_getElem? (i := 76) rfl) rfl
theorem gk_833 : Cond.fieldLink R_Speeds 17 R_Speeds "values" "[LGearDesk$Fraction;" ∈ gt_T := gt_m2 (List.mem_of_getElem? (i := 83) rfl) rfl
theorem gk_834 : Cond.classLink R_Speeds 15 R_Fraction ∈ gt_T := gt_m2 (List.mem_of_getElem? (i := 77) rfl) rfl
theorem gk_835 : Cond.methodLink R_Speeds 21 gy_Fraction_init ∈ gt_T := gt_m2 (List.mem_of_getElem? (i := 79) rfl) rfl
def gy_Speeds_init : MethodName := ⟨R_Speeds, "<init>", "()V"⟩
abbrev gb_Speeds_init : ByteArray := prog_6_method_1_code
theorem gk_836 : Cond.code gy_Speeds_init gb_Speeds_init 2 none ∈ gt_T := gt_m2 (List.mem_of_getElem? (i := 75) rfl) rfl
theorem gm_Speeds_init : gw_Mth gy_Speeds_init gb_Speeds_init 2 none 0 := ⟨gk_836, gk_128, ⟨by decide +kernel, by decide +kernel⟩, by decide +kernel⟩
theorem gd_Speeds_init_0 : decode gb_Speeds_init 0 = .ok (.aload_n 0, 1) := by decide +kernel
theorem gd_Speeds_init_1 : decode gb_Speeds_init 1 = .ok (.invokespecial 3, 3) := by decide +kernel
theorem gd_Speeds_init_4 : decode gb_Speeds_init 4 = .ok (.aload_n 0, 1) := by decide +kernel
theorem gd_Speeds_init_5 : decode gb_Speeds_init 5 = .ok (.bipush 60, 2) := by decide +kernel
theorem gd_Speeds_init_7 : decode gb_Speeds_init 7 = .ok (.newarray .boolean, 2) := by decide +kernel
theorem gd_Speeds_init_9 : decode gb_Speeds_init 9 = .ok (.putfield 9, 3) := by decide +kernel
theorem gd_Speeds_init_12 : decode gb_Speeds_init 12 = .ok (.aload_n 0, 1) := by decide +kernel
theorem gd_Speeds_init_13 : decode gb_Speeds_init 13 = .ok (.bipush 60, 2) := by decide +kernel
theorem gd_Speeds_init_15 : decode gb_Speeds_init 15 = .ok (.anewarray 15, 3) := by decide +kernel
theorem gd_Speeds_init_18 : decode gb_Speeds_init 18 = .ok (.putfield 17, 3) := by decide +kernel
theorem gd_Speeds_init_21 : decode gb_Speeds_init 21 = .ok (.iconst 0, 1) := by decide +kernel
theorem gd_Speeds_init_22 : decode gb_Speeds_init 22 = .ok (.istore_n 1, 1) := by decide +kernel
theorem gd_Speeds_init_23 : decode gb_Speeds_init 23 = .ok (.iload_n 1, 1) := by decide +kernel
theorem gd_Speeds_init_24 : decode gb_Speeds_init 24 = .ok (.bipush 60, 2) := by decide +kernel
theorem gd_Speeds_init_26 : decode gb_Speeds_init 26 = .ok (.if_icmp .ge 24, 3) := by decide +kernel
theorem gd_Speeds_init_29 : decode gb_Speeds_init 29 = .ok (.aload_n 0, 1) := by decide +kernel
theorem gd_Speeds_init_30 : decode gb_Speeds_init 30 = .ok (.getfield 17, 3) := by decide +kernel
theorem gd_Speeds_init_33 : decode gb_Speeds_init 33 = .ok (.iload_n 1, 1) := by decide +kernel
theorem gd_Speeds_init_34 : decode gb_Speeds_init 34 = .ok (.new 15, 3) := by decide +kernel
theorem gd_Speeds_init_37 : decode gb_Speeds_init 37 = .ok (.dup, 1) := by decide +kernel
theorem gd_Speeds_init_38 : decode gb_Speeds_init 38 = .ok (.bipush 9, 2) := by decide +kernel
theorem gd_Speeds_init_40 : decode gb_Speeds_init 40 = .ok (.invokespecial 21, 3) := by decide +kernel
theorem gd_Speeds_init_43 : decode gb_Speeds_init 43 = .ok (.aastore, 1) := by decide +kernel
theorem gd_Speeds_init_44 : decode gb_Speeds_init 44 = .ok (.iinc 1 1, 3) := by decide +kernel
theorem gd_Speeds_init_47 : decode gb_Speeds_init 47 = .ok (.goto (-24), 3) := by decide +kernel
theorem gd_Speeds_init_50 : decode gb_Speeds_init 50 = .ok (.return_, 1) := by decide +kernel
theorem gw_i9 : 6 + 2 * Int32.toNatClampNeg 9 = 24 := by decide +kernel
def gf_Speeds_init_S23 (F : Nat) (rc : gw_Sh → gw_St → Nat → Int32 → Option (gw_Sh × gw_St)) (z : gw_Sh) (u : gw_St) (t0 : Nat) (x1 : Int32) : Option (gw_Sh × gw_St) :=
  if (60 : Int32) ≤ x1 then some (z, u) else gf_nn (u.2.2 t0 1) fun q2 => gf_nm (gw_nz z 6 0) fun z1 => gf_nm (gw_zr u z.1) fun u1 => gf_cz (gf_Fraction_init F z1 u1 z.1 (9 : Int32)) fun z2 u2 => if (x1 < 0 ∨ z2.2.2 q2 ≤ (x1).toNatClampNeg) then none else gf_nm (gw_wr u2 q2 (x1).toNatClampNeg (z.1 + 1)) fun u3 => gf_nm (x1 + 1) fun a7 => rc z2 u3 t0 a7
def gf_Speeds_init_L23 (F : Nat) : Nat → gw_Sh → gw_St → Nat → Int32 → Option (gw_Sh × gw_St)
  | 0 => fun _ _ _ _ => none
  | n + 1 => fun z u t0 x1 => gf_Speeds_init_S23 F (gf_Speeds_init_L23 F n) z u t0 x1
def gf_Speeds_init (F : Nat) (z : gw_Sh) (u : gw_St) (t0 : Nat) : Option (gw_Sh × gw_St) :=
  if ((60 : Int32) < 0 ∨ 60000000 < ((60 : Int32)).toNatClampNeg) then none else gf_nm (gw_nz z 12 ((60 : Int32)).toNatClampNeg) fun z1 => gf_nm (gw_zr u z.1) fun u1 => gf_nm (gw_wr u1 t0 0 (z.1 + 1)) fun u2 => if ((60 : Int32) < 0 ∨ 60000000 < ((60 : Int32)).toNatClampNeg) then none else gf_nm (gw_nz z1 13 ((60 : Int32)).toNatClampNeg) fun z3 => gf_nm (gw_zr u2 z1.1) fun u4 => gf_nm (gw_wr u4 t0 1 (z1.1 + 1)) fun u5 => gf_Speeds_init_L23 F F z3 u5 t0 0
theorem gw_i60 {i : Nat} (h : i ≤ 60) : (60 : Int32) ≤ Int32.ofNat i ↔ i = 60 := by
  rw [Int32.le_iff_toInt_le, Int32.toInt_ofNat_of_lt (by omega)]
  show (60 : Int) ≤ i ↔ _
  omega
theorem gw_iS {i : Nat} : Int32.ofNat i + 1 = Int32.ofNat (i + 1) := (Int32.ofNat_add i 1).symm
set_option maxHeartbeats 4000000 in
set_option maxRecDepth 20000 in
theorem gx_Speeds_init_L23 {p : Program} {l : Launch} {e : Env} {s : State} {m : MethodId} {args : Array Value} {below : List Frame} {meth : Method} {c : Code} {D : va_G} {cA : Nat → ClassId} {hs : Nat → Nat} {z0 : gw_Sh} {R : Room} (F : Nat) {r0 : gw_Sh × gw_St} (C : gw_Cx p s m args c gb_Speeds_init 2 R_Speeds D cA) (hr : meth.sig.returnType = none) (hk : meth.locks = false) (hAO : va_AO R_Fraction s) (hR : 3 ≤ R.frames ∧ 106 ≤ R.locals ∧ 302 ≤ R.cells ∧ 1680 ≤ R.slots) (hh : ∀ j, hs (z0.1 + j) = s.heap.size + j) (t0 : Nat) : ∀ (n i : Nat) (hi : i ≤ 60) (z : gw_Sh) (u : gw_St) (H : Heap) (locs : List Loc) (ls : Array Slot), (∀ p d, gw_ok z0 p d → gw_ok z p d) → z.1 = z0.1 + (2 + 5 * i) → gw_ok z t0 3 → gw_Wd D cA hs z (gw_A hs z0 s.heap.size) s.heap u H locs → lv_has ls 2 [(0, .ref (hs t0)), (1, .int (Int32.ofNat i))] → gf_Speeds_init_L23 F n z u t0 (Int32.ofNat i) = some r0 → gw_Gc p l e R s m args below meth c D cA hs z0 r0 302 1680 H locs (2 + 5 * i) (120 + 26 * i) ls 23 [] := by
  intro n
  induction n with
  | zero =>
    intro i hi z u H locs ls hz hzc o_t0 hW hl h
    cases h
  | succ n ih =>
    intro i hi z u H locs ls hz hzc o_t0 hW hl h
    obtain ⟨hx, hb, hml, hown, hts, hK⟩ := id C
    obtain ⟨x, ex⟩ : ∃ y : Int32, y = Int32.ofNat i := ⟨_, rfl⟩
    have h6 := gw_i60 hi
    have hS : Int32.ofNat i + 1 = Int32.ofNat (i + 1) := gw_iS
    rw [← ex] at h hl h6 hS
    unfold gf_Speeds_init_L23 gf_Speeds_init_S23 at h
    refine lv_iload_n hx hb gd_Speeds_init_23 rfl (lv_at hl 1 rfl) ?_
    refine lv_bipush (v := 60) hx hb gd_Speeds_init_24 (by decide) ?_
    refine lv_icmp_ge (tgt := 50) hx hb gd_Speeds_init_26 (by decide) (fun c1 => ?_) (fun c1 => ?_)
    · have h := gf_t c1 h
      obtain rfl := Option.some.inj h
      have e6 := h6.mp c1
      subst e6
      exact gw_vretC C hW hzc hz hr hk gd_Speeds_init_50
    · have h := gf_f c1 h
      have hi6 : i < 60 := Nat.lt_of_le_of_ne hi (fun q => c1 (h6.mpr q))
      refine lv_aload_n hx hb gd_Speeds_init_29 rfl (lv_at hl 0 rfl) ?_
      obtain ⟨q2, e3, h⟩ := gf_nn_ok h
      refine gw_getr (k := 1) (ty := 13) (ref := R_Speeds) C hW o_t0 (by decide) rfl gi_Speeds rfl (by decide) rfl rfl gk_833 gd_Speeds_init_30 e3 ?_
      have o_q2 := hW.ref (d := 13) o_t0 e3 rfl
      refine lv_iload_n hx hb gd_Speeds_init_33 rfl (lv_at hl 1 rfl) ?_
      refine gw_frW hW hh hzc (fun hF => ?_)
      refine gw_new (ci := 6) C hW (fun _ h => Or.inr h) hF (by decide) rfl gi_Fraction rfl tf_Fraction tf_Fraction_ok df_Fraction gk_834 gk_812 gk_59 (Nat.le_trans (m := 302) (by omega) hR.2.2.1) (Nat.le_trans (m := 1680) (by omega) hR.2.2.2) gd_Speeds_init_34 (fun z1 u1 H e4 e5 hW hF o5 hz9 => ?_)
      have h := gf_nm_ok e4 h
      have h := gf_nm_ok e5 h
      have o_t0 := hz9 _ _ o_t0
      have o_q2 := hz9 _ _ o_q2
      have hz := fun p d h => hz9 p d (hz p d h)
      have hzc1 : z1.1 = z0.1 + (2 + 5 * i + 1) := gw_hzc (b := z.1) (c := 1) (by rw [e4]; rfl) hzc rfl
      refine lv_dup hx hb gd_Speeds_init_37 rfl ?_
      refine lv_bipush (v := 9) hx hb gd_Speeds_init_38 (by decide) ?_
      obtain ⟨z2, u2, d1, h⟩ := gf_cz_ok h
      refine gw_frW hW hh hzc1 (fun hF => ?_)
      refine gw_callI (As := [.int (9 : Int32)]) (rest := [.ref (hs z.1), .int x, .ref (hs q2)]) C hAO hW (fun _ h => Or.inr h) hl.1 gm_Fraction_init (gc_Fraction_init l F o5 d1 _ hF) gk_835 gk_814 rfl rfl rfl ⟨Nat.le_trans (m := 3) (Nat.le_of_ble_eq_true rfl) hR.1, Nat.le_trans (m := 106) (Nat.le_of_ble_eq_true rfl) hR.2.1⟩ ⟨Nat.le_trans (m := 302) (by omega) hR.2.2.1, Nat.le_trans (m := 1680) (by rw [gw_i9]; omega) hR.2.2.2⟩ rfl rfl (Nat.le_of_ble_eq_true rfl) gd_Speeds_init_40 (fun H locs hW hc9 hz9 => ?_)
      have o_t0 := hz9 _ _ o_t0
      have o_q2 := hz9 _ _ o_q2
      have o5 := hz9 _ _ o5
      have hz := fun p d h => hz9 p d (hz p d h)
      have hzc2 : z2.1 = z0.1 + (2 + 5 * (i + 1)) := gw_hzc (c := 4) hc9 hzc1 (by omega)
      obtain ⟨g4, h⟩ := gf_if_ok h
      refine gw_aast C hW o_q2 o5 g4 gd_Speeds_init_43 (fun u3 H locs e6 hW => ?_)
      have h := gf_nm_ok e6 h
      obtain ⟨a7, e8⟩ : ∃ y : Int32, y = x + 1 := ⟨_, rfl⟩
      have h := gf_nm_ok e8 h
      refine lv_iinc (v := a7) (lv' := [(1, .int a7), (0, .ref (hs t0))]) hx hb gd_Speeds_init_44 hl (k := 1) rfl (by rw [e8]; rfl) (by decide) rfl (fun ls hl => ?_)
      refine lv_goto (tgt := 23) hx hb gd_Speeds_init_47 (by decide) ?_
      refine W.widen (k := 2 + 5 * (i + 1)) (n := 120 + 26 * (i + 1)) (by omega) (by rw [gw_i9]; omega) ?_
      have e9 : a7 = Int32.ofNat (i + 1) := e8.trans hS
      subst e9
      exact ih (i + 1) hi6 z2 u3 H locs ls hz hzc2 o_t0 hW (lv_sub hl [1, 0] rfl) h
set_option maxHeartbeats 4000000 in
set_option maxRecDepth 20000 in
theorem gx_Speeds_init_b0 {p : Program} {l : Launch} {e : Env} {s : State} {m : MethodId} {args : Array Value} {below : List Frame} {meth : Method} {c : Code} {D : va_G} {cA : Nat → ClassId} {hs : Nat → Nat} {z z0 : gw_Sh} {R : Room} (F : Nat) {r0 : gw_Sh × gw_St} (C : gw_Cx p s m args c gb_Speeds_init 2 R_Speeds D cA) (hr : meth.sig.returnType = none) (hk : meth.locks = false) (hin : meth.name = "<init>") (hAO : va_AO R_Fraction s) (hR : 3 ≤ R.frames ∧ 106 ≤ R.locals ∧ 302 ≤ R.cells ∧ 1680 ≤ R.slots) (hh : ∀ j, hs (z0.1 + j) = s.heap.size + j) (hz : ∀ p d, gw_ok z0 p d → gw_ok z p d) (hzc : z.1 = z0.1 + 0) (u : gw_St) (t0 : Nat) (o_t0 : gw_ok z t0 3) {H : Heap} {locs : List Loc} {ls : Array Slot} (hW : gw_Wd D cA hs z (gw_A hs z0 s.heap.size) s.heap u H locs) (hl : lv_has ls 2 [(0, .ref (hs t0))]) (h : gf_Speeds_init F z u t0 = some r0) : gw_Gc p l e R s m args below meth c D cA hs z0 r0 302 1680 H locs 0 0 ls 0 [] := by
  obtain ⟨hx, hb, hml, hown, hts, hK⟩ := id C
  unfold gf_Speeds_init at h
  refine lv_aload_n hx hb gd_Speeds_init_0 rfl (lv_at hl 0 rfl) ?_
  refine W.objInit hx hb hown (hts _ gk_832) (hts _ gk_790) (hts _ gk_791) rfl (by rw [hml]; exact hl.1) rfl gd_Speeds_init_1 (Nat.le_trans (m := 3) (Nat.le_of_ble_eq_true rfl) hR.1) (Nat.le_trans (m := 106) (Nat.le_of_ble_eq_true rfl) hR.2.1) ?_
  refine W.eq (g2 := F0 m 4 ls []) rfl ?_
  refine lv_aload_n hx hb gd_Speeds_init_4 rfl (lv_at hl 0 rfl) ?_
  refine lv_bipush (v := 60) hx hb gd_Speeds_init_5 (by decide) ?_
  obtain ⟨g1, h⟩ := gf_if_ok h
  refine gw_frW hW hh hzc (fun hF => ?_)
  refine gw_newz C hW (fun _ h => Or.inr h) hF gk_829 g1 (Nat.le_trans (m := 302) (by decide +kernel) hR.2.2.1) (Nat.le_trans (m := 1680) (by decide +kernel) hR.2.2.2) gd_Speeds_init_7 (fun z1 u1 H e1 e2 hW hF o1 hz9 => ?_)
  have h := gf_nm_ok e1 h
  have h := gf_nm_ok e2 h
  have o_t0 := hz9 _ _ o_t0
  have hz := fun p d h => hz9 p d (hz p d h)
  refine W.widen (k := 1) (n := 60) (by decide +kernel) (by decide +kernel) ?_
  have hzc : z1.1 = z0.1 + 1 := gw_hzc (b := z.1) (c := 1) (by rw [e1]; rfl) hzc (by decide)
  refine gw_putF (k := 0) (ty := 12) (ref := R_Speeds) (fty := .array .boolean) C hW o_t0 o1 (by decide) rfl gi_Speeds rfl (by decide) rfl rfl gk_127 tf_Speeds tf_Speeds_ok nm_Speeds rfl hin rfl rfl (fun _ => rfl) (fun _ => rfl) gd_Speeds_init_9 (fun u2 H locs e3 hW => ?_)
  have h := gf_nm_ok e3 h
  refine lv_aload_n hx hb gd_Speeds_init_12 rfl (lv_at hl 0 rfl) ?_
  refine lv_bipush (v := 60) hx hb gd_Speeds_init_13 (by decide) ?_
  obtain ⟨g2, h⟩ := gf_if_ok h
  refine gw_frW hW hh hzc (fun hF => ?_)
  refine gw_newq C hW (fun _ h => Or.inr h) hF gk_834 hAO g2 (Nat.le_trans (m := 302) (by decide +kernel) hR.2.2.1) (Nat.le_trans (m := 1680) (by decide +kernel) hR.2.2.2) gd_Speeds_init_15 (fun z3 u4 H e4 e5 hW hF o3 hz9 => ?_)
  have h := gf_nm_ok e4 h
  have h := gf_nm_ok e5 h
  have o_t0 := hz9 _ _ o_t0
  have hz := fun p d h => hz9 p d (hz p d h)
  refine W.widen (k := 2 + 5 * 0) (n := 120 + 26 * 0) (by decide +kernel) (by decide +kernel) ?_
  have hzc : z3.1 = z0.1 + (2 + 5 * 0) := gw_hzc (b := z1.1) (c := 1) (by rw [e4]; rfl) hzc (by decide)
  refine gw_putF (k := 1) (ty := 13) (ref := R_Speeds) (fty := .array (.object "GearDesk$Fraction")) C hW o_t0 o3 (by decide) rfl gi_Speeds rfl (by decide) rfl rfl gk_833 tf_Speeds tf_Speeds_ok nm_Speeds rfl hin rfl rfl (fun _ => rfl) (fun _ => rfl) gd_Speeds_init_18 (fun u5 H locs e6 hW => ?_)
  have h := gf_nm_ok e6 h
  refine lv_iconst (v := 0) hx hb gd_Speeds_init_21 (by decide) ?_
  refine lv_istore_n (lv' := [(1, .int 0), (0, .ref (hs t0))]) hx hb gd_Speeds_init_22 rfl hl (by decide) rfl (fun ls hl => ?_)
  exact gx_Speeds_init_L23 F C hr hk hAO hR hh t0 F 0 (Nat.zero_le _) z3 u5 H locs ls hz hzc o_t0 hW (lv_sub hl [1, 0] rfl) h
set_option maxRecDepth 20000 in
theorem gc_Speeds_init (l : Launch) {D : va_G} {cA : Nat → ClassId} {hs : Nat → Nat} {z : gw_Sh} (F : Nat) {u : gw_St} {r0 : gw_Sh × gw_St} {t0 : Nat} (o_t0 : gw_ok z t0 3) (h : gf_Speeds_init F z u t0 = some r0) (sz : Nat) (hh : ∀ j, hs (z.1 + j) = sz + j) : gw_Mc l gy_Speeds_init gb_Speeds_init 2 (gw_rc 3 106 302 1680) [.ref (hs t0)] D cA hs z u sz 302 1680 r0 := by
  refine gw_enterC (by decide) (Nat.le_of_ble_eq_true rfl) hh ?_
  intro p e s m below meth c ls hsz C hW hh hAO hr hk hin hl
  subst hsz
  exact gx_Speeds_init_b0 F C hr hk hin hAO (gw_rc_ok 3 106 302 1680) hh (fun _ _ h => h) rfl u t0 o_t0 hW (lv_sub hl [0] rfl) h
