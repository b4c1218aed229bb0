theorem gk_1066 : Cond.instantiable R_Desk 9 ∈ gt_T := gt_m1 (List.mem_of_getElem? (i := 32) rfl) rfl
theorem gk_1067 : Cond.instantiable R_Model 49 ∈ gt_T := gt_m6 (List.mem_of_getElem? (i := 40) rfl) rfl
theorem gk_1068 : Cond.classLink R_Law 8 R_Desk ∈ gt_T := gt_m1 (List.mem_of_getElem? (i := 31) rfl) rfl
theorem gk_1069 : Cond.classLink R_Law 87 R_Model ∈ gt_T := gt_m6 (List.mem_of_getElem? (i := 39) rfl) rfl
theorem gk_1070 : Cond.methodLink R_Law 86 gy_Desk_init ∈ gt_T := gt_m1 (List.mem_of_getElem? (i := 33) rfl) rfl
theorem gk_1071 : Cond.methodLink R_Law 89 gy_Model_init ∈ gt_T := gt_m6 (List.mem_of_getElem? (i := 41) rfl) rfl
theorem gk_1072 : Cond.instanceMethod gy_Desk_init ∈ gt_T := gt_m1 (List.mem_of_getElem? (i := 34) rfl) rfl
theorem gk_1073 : Cond.instanceMethod gy_Model_init ∈ gt_T := gt_m6 (List.mem_of_getElem? (i := 42) rfl) rfl
theorem gd_Law_law_0 : decode code 0 = .ok (.new 8, 3) := by decide +kernel
theorem gd_Law_law_3 : decode code 3 = .ok (.dup, 1) := by decide +kernel
theorem gd_Law_law_4 : decode code 4 = .ok (.invokespecial 86, 3) := by decide +kernel
theorem gd_Law_law_7 : decode code 7 = .ok (.astore_n 1, 1) := by decide +kernel
theorem gd_Law_law_8 : decode code 8 = .ok (.new 87, 3) := by decide +kernel
theorem gd_Law_law_11 : decode code 11 = .ok (.dup, 1) := by decide +kernel
theorem gd_Law_law_12 : decode code 12 = .ok (.invokespecial 89, 3) := by decide +kernel
theorem gd_Law_law_15 : decode code 15 = .ok (.astore_n 2, 1) := by decide +kernel
theorem gd_Law_law_16 : decode code 16 = .ok (.iconst 1, 1) := by decide +kernel
theorem gd_Law_law_17 : decode code 17 = .ok (.newarray .long, 2) := by decide +kernel
theorem gd_Law_law_19 : decode code 19 = .ok (.astore_n 3, 1) := by decide +kernel
theorem gd_Law_law_20 : decode code 20 = .ok (.iconst 0, 1) := by decide +kernel
theorem gd_Law_law_21 : decode code 21 = .ok (.istore 4, 2) := by decide +kernel
theorem gl_m1 {w : Cond} (h : w ∈ tables_1_1) : w ∈ lw_tbl := List.mem_append_right _ (List.mem_append_left _ h)
theorem gl_m2 {w : Cond} (h : w ∈ tables_1_2) : w ∈ lw_tbl := List.mem_append_right _ (List.mem_append_right _ (List.mem_append_left _ h))
theorem gl_m3 {w : Cond} (h : w ∈ tables_1_3) : w ∈ lw_tbl := List.mem_append_right _ (List.mem_append_right _ (List.mem_append_right _ (List.mem_append_left _ h)))
theorem gl_m4 {w : Cond} (h : w ∈ tables_1_4) : w ∈ lw_tbl := List.mem_append_right _ (List.mem_append_right _ (List.mem_append_right _ (List.mem_append_right _ (List.mem_append_left _ h))))
theorem gl_m5 {w : Cond} (h : w ∈ tables_1_5) : w ∈ lw_tbl := List.mem_append_right _ (List.mem_append_right _ (List.mem_append_right _ (List.mem_append_right _ (List.mem_append_right _ (List.mem_append_left _ h)))))
theorem gl_ca1 : Cond.castable "java/lang/IllegalArgumentException" "java/lang/IllegalArgumentException" ∈ lw_tbl := gl_m2 (List.mem_of_getElem? (i := 164) rfl)
theorem gl_ca2 : Cond.castable "java/lang/IllegalStateException" "java/lang/IllegalStateException" ∈ lw_tbl := gl_m3 (List.mem_of_getElem? (i := 7) rfl)
theorem gl_ca3 : Cond.castable "java/lang/IndexOutOfBoundsException" "java/lang/IndexOutOfBoundsException" ∈ lw_tbl := gl_m4 (List.mem_of_getElem? (i := 143) rfl)
theorem gl_ca4 : Cond.castable "java/lang/UnsupportedOperationException" "java/lang/UnsupportedOperationException" ∈ lw_tbl := gl_m5 (List.mem_of_getElem? (i := 180) rfl)
theorem gl_de0 : Cond.declares ⟨"java/lang/RuntimeException", "<init>", "()V"⟩ ∈ lw_tbl := gl_m2 (List.mem_of_getElem? (i := 165) rfl)
theorem gl_de1 : Cond.declares ⟨"java/lang/Exception", "<init>", "()V"⟩ ∈ lw_tbl := gl_m2 (List.mem_of_getElem? (i := 167) rfl)
theorem gl_de2 : Cond.declares ⟨"java/lang/Throwable", "<init>", "()V"⟩ ∈ lw_tbl := gl_m2 (List.mem_of_getElem? (i := 169) rfl)
theorem gl_ls0 : Cond.laysStatic "java/lang/Throwable" "UNASSIGNED_STACK" "[Ljava/lang/StackTraceElement;" ∈ lw_tbl := gl_m2 (List.mem_of_getElem? (i := 189) rfl)
theorem gl_ls1 : Cond.laysStatic "java/lang/Throwable" "SUPPRESSED_SENTINEL" "Ljava/util/List;" ∈ lw_tbl := gl_m2 (List.mem_of_getElem? (i := 191) rfl)
theorem gl_ao : Cond.arrayOver (.object "GearDesk$Fraction") ∈ lw_tbl := gl_m2 (List.mem_of_getElem? (i := 78) rfl)
theorem gl_th : Cond.initialized "java/lang/Throwable" ∈ lw_tbl := gl_m1 (List.mem_of_getElem? (i := 14) rfl)
theorem gw_K1 {args : Array Value} {s : State} (hts : ∀ w ∈ gt_T, w.before args s = true) (c : Nat) : ∃ x : ClassId × (Nat → Nat), ∀ q : vw_C, gt_cl[c]? = some q → u_Kn s q.1 q.2.1 q.2.2 x.1 x.2 := match c with
  | 0 => by
    obtain ⟨cC, iS, h⟩ := u_known hts gi_Desk (hts _ gk_1066)
    exact ⟨(cC, iS), fun q hq => by cases hq; exact h⟩
  | 1 => by
    obtain ⟨cC, iS, h⟩ := u_known hts gi_Trains (hts _ gk_839)
    exact ⟨(cC, iS), fun q hq => by cases hq; exact h⟩
  | 2 => by
    obtain ⟨cC, iS, h⟩ := u_known hts gi_Works (hts _ gk_843)
    exact ⟨(cC, iS), fun q hq => by cases hq; exact h⟩
  | 3 => by
    obtain ⟨cC, iS, h⟩ := u_known hts gi_Speeds (hts _ gk_862)
    exact ⟨(cC, iS), fun q hq => by cases hq; exact h⟩
  | 4 => by
    obtain ⟨cC, iS, h⟩ := u_known hts gi_Equations (hts _ gk_851)
    exact ⟨(cC, iS), fun q hq => by cases hq; exact h⟩
  | 5 => by
    obtain ⟨cC, iS, h⟩ := u_known hts gi_Hands (hts _ gk_855)
    exact ⟨(cC, iS), fun q hq => by cases hq; exact h⟩
  | 6 => by
    obtain ⟨cC, iS, h⟩ := u_known hts gi_Fraction (hts _ gk_812)
    exact ⟨(cC, iS), fun q hq => by cases hq; exact h⟩
  | 7 => by
    obtain ⟨cC, iS, h⟩ := u_known hts gi_Calculator (hts _ gk_847)
    exact ⟨(cC, iS), fun q hq => by cases hq; exact h⟩
  | 8 => by
    obtain ⟨cC, iS, h⟩ := u_known hts gi_Whole (hts _ gk_796)
    exact ⟨(cC, iS), fun q hq => by cases hq; exact h⟩
  | 9 => by
    obtain ⟨cC, iS, h⟩ := u_known hts gi_Model (hts _ gk_1067)
    exact ⟨(cC, iS), fun q hq => by cases hq; exact h⟩
  | n + 10 => ⟨(0, fun _ => 0), fun q hq => by cases hq⟩
theorem gw_K0 {args : Array Value} {s : State} (hts : ∀ w ∈ gt_T, w.before args s = true) (hAO : va_AO R_Fraction s) : ∃ (D : va_G) (cA : Nat → ClassId), va_K D gt_cl (gw_ty cA) s := by
  obtain ⟨c0, k0, p0, a0, b0, d0⟩ := Cond.arrayClass_spec (hts _ gk_792)
  obtain ⟨c1, k1, p1, a1, b1, d1⟩ := Cond.arrayClass_spec (hts _ gk_806)
  obtain ⟨c2, k2, p2, a2, b2, d2⟩ := Cond.arrayClass_spec (hts _ gk_829)
  obtain ⟨p3, c3, k3, e3, -, b3, d3, a3⟩ := Cond.arrayOver_spec hAO
  refine ⟨(fun c => (Classical.choose (gw_K1 hts c)).1, fun c => (Classical.choose (gw_K1 hts c)).2), fun k => match k with
    | 0 => c0
    | 1 => c1
    | 2 => c2
    | _ => c3, fun c q hq => Classical.choose_spec (gw_K1 hts c) q hq, fun k q hq => ?_⟩
  match k, hq with
  | 0, hq => cases hq; exact ⟨fun n z => ⟨fun k h => (by cases h), k0, b0, p0, d0⟩, a0⟩
  | 1, hq => cases hq; exact ⟨fun n z => ⟨fun k h => (by cases h), k1, b1, p1, d1⟩, a1⟩
  | 2, hq => cases hq; exact ⟨fun n z => ⟨fun k h => (by cases h), k2, b2, p2, d2⟩, a2⟩
  | 3, hq => cases hq; exact ⟨fun n z => ⟨fun k h => (by cases h), k3, b3, p3, d3⟩, k3, p3, b3, d3, e3, a3⟩
  | n + 4, hq => cases hq
theorem xt_Zof {args : Array Value} {s : State} {C n d : String} {A : Nat → Prop} (hl : (Cond.laysStatic C n d).before args s = true) (h : (Cond.isRef (.static C n d)).before args s = true) (hA : ∀ a : Nat, a < s.heap.size → ¬ A a) : xt_Zq C n d A s s.heap := by
  obtain ⟨c, k, i, f, a, cell, hc, hi, hst, ha, hcell, hs, hcls, hlt, hty⟩ := Cond.laysStatic_spec hl
  cases hv : (Term.static C n d).eval args s none [] s with
  | none => simp [Cond.before, Cond.holds, Cond.value, hv] at h
  | some w =>
    obtain ⟨hst', a', cell', ha', hcell', -, hslot⟩ := Term.static_spec hi hv
    cases ha.symm.trans ha'
    cases hcell.symm.trans hcell'
    refine ⟨c, k, i, f, a, cell, w, hc, hi, hst, ha, hcell, hs, hcls, hlt, hty, hslot, ?_, hA a (Array.getElem?_eq_some_iff.mp hcell).1⟩
    simp only [Cond.before, Cond.holds, Cond.value, hv] at h
    cases w with
    | null => exact Or.inl rfl
    | ref t => exact Or.inr ⟨t, rfl⟩
    | _ => simp at h
theorem xt_Caof {args : Array Value} {s : State} {K C : String} (h : (Cond.castable K C).before args s = true) : xt_Ca K C s := by
  obtain ⟨c, t, h1, h2, h3⟩ := Cond.castable_spec h
  exact ⟨c, t, h1, h2, h3⟩
theorem gw_Z0 {args : Array Value} {s : State} {hs : Nat → Nat} (hts : ∀ w ∈ lw_tbl, w.before args s = true) (hgv : (Jvm.Cond.and given_1 narrow_1).before args s = true) : xt_Zs (gw_A hs gw_z0 s.heap.size) s s.heap := by
  have hq := flat_of_before _ hgv
  refine ⟨xt_Zof (hts _ gl_ls0) (hq _ (by decide +kernel)) (fun a ha => gw_lb ha), xt_Zof (hts _ gl_ls1) (hq _ (by decide +kernel)) (fun a ha => gw_lb ha), fun k => ?_, fun Y hY => ?_⟩
  · match k with
    | 1 => exact xt_Caof (hts _ gl_ca1)
    | 2 => exact xt_Caof (hts _ gl_ca2)
    | 3 => exact xt_Caof (hts _ gl_ca3)
    | 0 => exact xt_Caof (hts _ gl_ca4)
    | n + 4 => exact xt_Caof (hts _ gl_ca4)
  · rcases List.mem_cons.mp hY with rfl | hY
    · exact va_Nw.of rfl (hts _ gl_de0)
    · rcases List.mem_cons.mp hY with rfl | hY
      · exact va_Nw.of rfl (hts _ gl_de1)
      · rcases List.mem_cons.mp hY with rfl | hY
        · exact va_Nw.of rfl (hts _ gl_de2)
        · cases hY
theorem gw_N0 {args : Array Value} {s : State} (hgv : (Jvm.Cond.and given_1 narrow_1).before args s = true) : xt_Nn s := by
  have hq := flat_of_before _ hgv
  have h12 : va_Nc "java/lang/IllegalArgumentException" "java/lang/IllegalStateException" s := va_Nc.of (hq _ (by decide +kernel))
  have h13 : va_Nc "java/lang/IllegalArgumentException" "java/lang/IndexOutOfBoundsException" s := va_Nc.of (hq _ (by decide +kernel))
  have h14 : va_Nc "java/lang/IllegalArgumentException" "java/lang/UnsupportedOperationException" s := va_Nc.of (hq _ (by decide +kernel))
  have h21 : va_Nc "java/lang/IllegalStateException" "java/lang/IllegalArgumentException" s := va_Nc.of (hq _ (by decide +kernel))
  have h23 : va_Nc "java/lang/IllegalStateException" "java/lang/IndexOutOfBoundsException" s := va_Nc.of (hq _ (by decide +kernel))
  have h24 : va_Nc "java/lang/IllegalStateException" "java/lang/UnsupportedOperationException" s := va_Nc.of (hq _ (by decide +kernel))
  have h31 : va_Nc "java/lang/IndexOutOfBoundsException" "java/lang/IllegalArgumentException" s := va_Nc.of (hq _ (by decide +kernel))
  have h32 : va_Nc "java/lang/IndexOutOfBoundsException" "java/lang/IllegalStateException" s := va_Nc.of (hq _ (by decide +kernel))
  have h34 : va_Nc "java/lang/IndexOutOfBoundsException" "java/lang/UnsupportedOperationException" s := va_Nc.of (hq _ (by decide +kernel))
  have h41 : va_Nc "java/lang/UnsupportedOperationException" "java/lang/IllegalArgumentException" s := va_Nc.of (hq _ (by decide +kernel))
  have h42 : va_Nc "java/lang/UnsupportedOperationException" "java/lang/IllegalStateException" s := va_Nc.of (hq _ (by decide +kernel))
  have h43 : va_Nc "java/lang/UnsupportedOperationException" "java/lang/IndexOutOfBoundsException" s := va_Nc.of (hq _ (by decide +kernel))
  intro a ha b hb hab
  rcases (show a = 1 ∨ a = 2 ∨ a = 3 ∨ a = 4 by simpa using ha) with rfl | rfl | rfl | rfl <;> rcases (show b = 1 ∨ b = 2 ∨ b = 3 ∨ b = 4 by simpa using hb) with rfl | rfl | rfl | rfl <;> first | exact absurd rfl hab | exact h12 | exact h13 | exact h14 | exact h21 | exact h23 | exact h24 | exact h31 | exact h32 | exact h34 | exact h41 | exact h42 | exact h43
def gw_u0 : gw_St := (fun _ _ => 0, fun _ _ => 0, fun _ _ => 0)
theorem gw_W0 {D : va_G} {cA : Nat → ClassId} {hs : Nat → Nat} {A : Nat → Prop} {H : Heap} : gw_Wd D cA hs gw_z0 A H gw_u0 H [] := by
  have e : gw_w cA hs gw_z0 gw_u0 = [] := rfl
  refine ⟨?_, ?_, va_S.rf, fun p hp => absurd hp (Nat.not_lt_zero _)⟩
  · rw [e]; intro k x hx; cases hx
  · rw [e]; exact ⟨by intros; simp_all, by intros; simp_all⟩
/-- the law as a function of the script: F bounds the rounds of every loop -/
def gf_law (F : Nat) (xs : Nat → Int32) (L : Nat) : Option Int32 :=
  gf_nm (gw_nz gw_z0 0 0) fun z1 => gf_nm (gw_zr gw_u0 gw_z0.1) fun u1 => gf_cz (gf_Desk_init F z1 u1 gw_z0.1) fun z2 u2 => gf_nm (gw_nz z2 9 0) fun z3 => gf_nm (gw_zr u2 z2.1) fun u3 => gf_cz (gf_Model_init F z3 u3 z2.1) fun z4 u4 => if ((1 : Int32) < 0 ∨ 60000000 < ((1 : Int32)).toNatClampNeg) then none else gf_nm (gw_nz z4 11 ((1 : Int32)).toNatClampNeg) fun z5 => gf_nm (gw_zr u4 z4.1) fun u5 => gf_Law_law_L23 F xs L z5 513 u5 gw_z0.1 z2.1 z4.1 0
set_option maxHeartbeats 4000000 in
set_option maxRecDepth 20000 in
theorem gw_start {p : Program} {e : Env} {s : State} {m : MethodId} {below : List Frame} {meth : Method} {c : Code} (l : Launch) (hfl : l.flags = pinnedFlags ++ [noTraceFlag]) {b L : Nat} {xs : Nat → Int32} (F : Nat) (h : gf_law F xs L = some 1) (C0 : lw_At p s m meth c b L xs) : W p l e room_1 s m #[Value.ref b] below meth c s.heap [] 0 0 (lw_Z below #[Value.ref b] s) (entryFrame m ([Value.ref b] : List Value).toArray 8) := by
  obtain ⟨hx, hb, hr, hml, hown, htl, hX, hbl, hk, hgv⟩ := C0
  have hts : ∀ w ∈ gt_T, w.before #[Value.ref b] s = true := fun w hw => htl w (List.mem_filter.mp hw).1
  have hAO : va_AO R_Fraction s := va_AO.of (htl _ gl_ao)
  obtain ⟨D, cA, hK⟩ := gw_K0 hts hAO
  obtain ⟨hs, hh⟩ : ∃ hs : Nat → Nat, ∀ j, hs (gw_z0.1 + j) = s.heap.size + j := ⟨fun j => s.heap.size + j, fun j => by show s.heap.size + (0 + j) = _; rw [Nat.zero_add]⟩
  have hZ : xt_Zs (gw_A hs gw_z0 s.heap.size) s s.heap := gw_Z0 htl hgv
  have hN : xt_Nn s := gw_N0 hgv
  have C : gw_Cx p s m #[Value.ref b] c code 8 R_Law D cA := ⟨hx, hb, hml, hown, hts, hK⟩
  have hl := lv_entry [Value.ref b] (n := 8) (Nat.le_of_ble_eq_true rfl)
  rw [lg_entry_eq]
  have hl : lv_has _ 8 [(0, Value.ref b)] := lv_sub hl [0] rfl
  obtain ⟨ls, hls⟩ : ∃ ls : Array Slot, ls = (lg_sl [Value.ref b] ++ List.replicate (8 - (lg_sl [Value.ref b]).length) Slot.unset).toArray := ⟨_, rfl⟩
  rw [← hls] at hl
  refine W.eq (g2 := F0 m 0 ls []) (by rw [hls]) ?_
  have hW : gw_Wd D cA hs gw_z0 (gw_A hs gw_z0 s.heap.size) s.heap gw_u0 s.heap [] := gw_W0
  unfold gf_law at h
  refine gw_new (ci := 0) C hW (fun _ h => Or.inr h) hh (by decide) rfl gi_Desk rfl tf_Desk tf_Desk_ok df_Desk gk_1068 gk_1066 gk_361 (by decide +kernel) (by decide +kernel) gd_Law_law_0 (fun z1 u1 H e1 e2 hW hF o1 hz1 => ?_)
  have h := gf_nm_ok e1 h
  have h := gf_nm_ok e2 h
  refine W.widen (k := 1) (n := 9) (by decide +kernel) (by decide +kernel) ?_
  have hzc : z1.1 = gw_z0.1 + 1 := gw_hzc (b := gw_z0.1) (c := 1) (e := 0) (by rw [e1]; rfl) rfl (by decide)
  refine lv_dup hx hb gd_Law_law_3 rfl ?_
  obtain ⟨z2, u2, d1, h⟩ := gf_cz_ok h
  refine gw_frW hW hh hzc (fun hF => ?_)
  refine gw_callI (As := []) (rest := [.ref (hs gw_z0.1)]) C hAO hW (fun _ h => Or.inr h) hl.1 gm_Desk_init (gc_Desk_init l F o1 d1 _ hF) gk_1070 gk_1072 rfl rfl rfl ⟨gw_lf (Nat.le_of_ble_eq_true rfl), gw_ll (Nat.le_of_ble_eq_true rfl)⟩ ⟨by decide +kernel, by decide +kernel⟩ rfl rfl (Nat.le_of_ble_eq_true rfl) gd_Law_law_4 (fun H locs hW hc9 hz2 => ?_)
  have o1 := hz2 _ _ o1
  have hzc : z2.1 = gw_z0.1 + 670 := gw_hzc (c := 669) hc9 hzc (by decide)
  refine W.widen (k := 670) (n := 165544) (by decide +kernel) (by decide +kernel) ?_
  refine lv_astore_n (lv' := [(1, .ref (hs gw_z0.1)), (0, .ref b)]) hx hb gd_Law_law_7 rfl hl (by decide) rfl (fun ls hl => ?_)
  refine gw_frW hW hh hzc (fun hF => ?_)
  refine gw_new (ci := 9) C hW (fun _ h => Or.inr h) hF (by decide) rfl gi_Model rfl tf_Model tf_Model_ok df_Model gk_1069 gk_1067 gk_377 (by decide +kernel) (by decide +kernel) gd_Law_law_8 (fun z3 u3 H e1 e2 hW hF o2 hz3 => ?_)
  have h := gf_nm_ok e1 h
  have h := gf_nm_ok e2 h
  have o1 := hz3 _ _ o1
  refine W.widen (k := 671) (n := 165593) (by decide +kernel) (by decide +kernel) ?_
  have hzc : z3.1 = gw_z0.1 + 671 := gw_hzc (b := z2.1) (c := 1) (by rw [e1]; rfl) hzc (by decide)
  refine lv_dup hx hb gd_Law_law_11 rfl ?_
  obtain ⟨z4, u4, d2, h⟩ := gf_cz_ok h
  refine gw_frW hW hh hzc (fun hF => ?_)
  refine gw_callI (As := []) (rest := [.ref (hs z2.1)]) C hAO hW (fun _ h => Or.inr h) hl.1 gm_Model_init (gc_Model_init l F o2 d2 _ hF) gk_1071 gk_1073 rfl rfl rfl ⟨gw_lf (Nat.le_of_ble_eq_true rfl), gw_ll (Nat.le_of_ble_eq_true rfl)⟩ ⟨by decide +kernel, by decide +kernel⟩ rfl rfl (Nat.le_of_ble_eq_true rfl) gd_Law_law_12 (fun H locs hW hc9 hz4 => ?_)
  have o1 := hz4 _ _ o1
  have o2 := hz4 _ _ o2
  have hzc : z4.1 = gw_z0.1 + 701 := gw_hzc (c := 30) hc9 hzc (by decide)
  refine W.widen (k := 701) (n := 301054) (by decide +kernel) (by decide +kernel) ?_
  refine lv_astore_n (lv' := [(2, .ref (hs z2.1)), (1, .ref (hs gw_z0.1)), (0, .ref b)]) hx hb gd_Law_law_15 rfl hl (by decide) rfl (fun ls hl => ?_)
  refine lv_iconst (v := 1) hx hb gd_Law_law_16 (by decide) ?_
  obtain ⟨g1, h⟩ := gf_if_ok h
  refine gw_frW hW hh hzc (fun hF => ?_)
  refine gw_newl C hW (fun _ h => Or.inr h) hF gk_806 g1 (by decide +kernel) (by decide +kernel) gd_Law_law_17 (fun z5 u5 H e1 e2 hW hF o3 hz5 => ?_)
  have h := gf_nm_ok e1 h
  have h := gf_nm_ok e2 h
  have o1 := hz5 _ _ o1
  have o2 := hz5 _ _ o2
  refine W.widen (k := 1000 + 0) (n := 400000 + 6 * 0) (by decide +kernel) (by decide +kernel) ?_
  refine lv_astore_n (lv' := [(3, .ref (hs z4.1)), (2, .ref (hs z2.1)), (1, .ref (hs gw_z0.1)), (0, .ref b)]) hx hb gd_Law_law_19 rfl hl (by decide) rfl (fun ls hl => ?_)
  refine lv_iconst (v := 0) hx hb gd_Law_law_20 (by decide) ?_
  refine lv_istore (lv' := [(4, .int 0), (3, .ref (hs z4.1)), (2, .ref (hs z2.1)), (1, .ref (hs gw_z0.1)), (0, .ref b)]) hx hb gd_Law_law_21 hl (by decide) rfl (fun ls hl => ?_)
  exact gx_Law_law_L23 F C hr hk hfl hZ hN hX hbl rfl 513 0 rfl u5 gw_z0.1 z2.1 z4.1 0 _ _ _ o1 o2 o3 hW (lv_sub hl [4, 3, 2, 1, 0] rfl) h
