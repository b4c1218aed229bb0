section GWR
variable {p : Program} {l : Launch} {e : Env} {R : Room} {s : State} {m : MethodId} {args : Array Value} {below : List Frame} {meth : Method} {c : Code} {H : Heap} {locs : List Loc} {cells slots : Nat} {Q : State → Prop}
variable {cc : ByteArray} {nL pc : Nat} {ls : Array Slot} {rest : List Value} {D : va_G} {cA : Nat → ClassId} {hs : Nat → Nat} {z : gw_Sh} {A : Nat → Prop} {H0 : Heap} {u : gw_St} {own : String}
theorem gw_geti (C : gw_Cx p s m args c cc nL own D cA) (hW : gw_Wd D cA hs z A H0 u H locs) {ref K : String} {T : u_T} {N ci t k index : Nat} (ht : gw_ok z t ci) (hci : ci < 10) (hc : gt_cl[ci]? = some (K, T, N)) (hin : ∀ w ∈ u_ws K T N, w ∈ gt_T) (hN : gt_nf ci = N) (hk : k < N) (hty : gt_ty ci k = 0) (hr : (T k).1 = ref) (hl : Cond.fieldLink own index ref (T k).2.1 (T k).2.2.1 ∈ gt_T) (hdg : decode cc pc = .ok (.getfield index, 3))
    (kk : W p l e R s m args below meth c H locs cells slots Q (F0 m (pc + 3) ls (.int (u.1 t k) :: rest))) : W p l e R s m args below meth c H locs cells slots Q (F0 m pc ls (.ref (hs t) :: rest)) := by
  obtain ⟨hx, hb, -, hown, hts, hK⟩ := C
  subst hr
  exact va_get (D := D) hx hb hts hin hown hK hW.1 t (gw_ato ht hci) hc k hk (hts _ hl) (fun _ h9 => h9) (gw_fsk hN hk hty) hdg kk
theorem gw_getl (C : gw_Cx p s m args c cc nL own D cA) (hW : gw_Wd D cA hs z A H0 u H locs) {ref K : String} {T : u_T} {N ci t k index : Nat} (ht : gw_ok z t ci) (hci : ci < 10) (hc : gt_cl[ci]? = some (K, T, N)) (hin : ∀ w ∈ u_ws K T N, w ∈ gt_T) (hN : gt_nf ci = N) (hk : k < N) (hty : gt_ty ci k = 1) (hr : (T k).1 = ref) (hl : Cond.fieldLink own index ref (T k).2.1 (T k).2.2.1 ∈ gt_T) (hdg : decode cc pc = .ok (.getfield index, 3))
    (kk : W p l e R s m args below meth c H locs cells slots Q (F0 m (pc + 3) ls (.long (u.2.1 t k) :: rest))) : W p l e R s m args below meth c H locs cells slots Q (F0 m pc ls (.ref (hs t) :: rest)) := by
  obtain ⟨hx, hb, -, hown, hts, hK⟩ := C
  subst hr
  exact va_get (D := D) hx hb hts hin hown hK hW.1 t (gw_ato ht hci) hc k hk (hts _ hl) (fun _ h9 => h9) (gw_fsk hN hk hty) hdg kk
theorem gw_getr (C : gw_Cx p s m args c cc nL own D cA) (hW : gw_Wd D cA hs z A H0 u H locs) {ref K : String} {T : u_T} {N ci t k index q ty : Nat} (ht : gw_ok z t ci) (hci : ci < 10) (hc : gt_cl[ci]? = some (K, T, N)) (hin : ∀ w ∈ u_ws K T N, w ∈ gt_T) (hN : gt_nf ci = N) (hk : k < N) (hty : gt_ty ci k = ty + 2) (hr : (T k).1 = ref) (hl : Cond.fieldLink own index ref (T k).2.1 (T k).2.2.1 ∈ gt_T) (hdg : decode cc pc = .ok (.getfield index, 3)) (hq : u.2.2 t k = q + 1)
    (kk : W p l e R s m args below meth c H locs cells slots Q (F0 m (pc + 3) ls (.ref (hs q) :: rest))) : W p l e R s m args below meth c H locs cells slots Q (F0 m pc ls (.ref (hs t) :: rest)) := by
  obtain ⟨hx, hb, -, hown, hts, hK⟩ := C
  subst hr
  have hv : gw_fv hs u t k (ty + 2) = .ref (hs q) := by
    show gw_rf hs (u.2.2 t k) = _
    rw [hq]
    rfl
  exact va_get (D := D) hx hb hts hin hown hK hW.1 t (gw_ato ht hci) hc k hk (hts _ hl) (fun _ h9 => h9) (by rw [← hv]; exact gw_fsk hN hk hty) hdg kk
theorem gw_puti (C : gw_Cx p s m args c cc nL own D cA) (hW : gw_Wd D cA hs z A H0 u H locs) {ref K : String} {T : u_T} {N ci t k index : Nat} {x : Int32} {fty : FieldType} (ht : gw_ok z t ci) (hci : ci < 10) (hc : gt_cl[ci]? = some (K, T, N)) (hin : ∀ w ∈ u_ws K T N, w ∈ gt_T) (hN : gt_nf ci = N) (hk : k < N) (hty : gt_ty ci k = 0) (hr : (T k).1 = ref) (hl : Cond.fieldLink own index ref (T k).2.1 (T k).2.2.1 ∈ gt_T) (tyf : Nat → FieldType) (htyf : ∀ k, k < N → parseFieldDescriptor (T k).2.2.1 = some (tyf k)) (hnm : ∀ a, a < N → ∀ b, b < N → a ≠ b → (T a).2.1 ≠ (T b).2.1) (hfin : (T k).2.2.2 = false) (hd : parseFieldDescriptor (T k).2.2.1 = some fty) (hn : narrow fty (.int x) = .int x) (hfit : fits fty (.int x) = true) (hdg : decode cc pc = .ok (.putfield index, 3))
    (kk : ∀ (u1 : gw_St) (H1 : Heap) (locs1 : List Loc), u1 = (gw_wi u t k x) → gw_Wd D cA hs z A H0 u1 H1 locs1 → W p l e R s m args below meth c H1 locs1 cells slots Q (F0 m (pc + 3) ls rest)) : W p l e R s m args below meth c H locs cells slots Q (F0 m pc ls (.int x :: .ref (hs t) :: rest)) := by
  obtain ⟨hx, hb, -, hown, hts, hK⟩ := C
  subst hr
  refine va_put (D := D) (v := .int x) (ty := fty) hx hb hts hin tyf htyf hnm hown hK hW.1 hW.2.1 hW.2.2.1 t (gw_ato ht hci) hc k hk (hts _ hl) (fun _ h9 => h9) hfin hd hn hfit (by simp [gw_fs, hN, hk]) hdg (fun H1 locs1 hP hD hS => kk _ H1 locs1 rfl (gw_Wd.put ?_ hP hD hS hW.2.2.2))
  rw [gw_fs_set (u1 := gw_wi u t k x) hty gw_fv_i0 (fun j hj => gw_fv_i hj)]
  exact gw_set (gw_e0 ht.2 hci) (fun q hq => gw_eq (gw_wi_ne hq) rfl rfl)
theorem gw_putl (C : gw_Cx p s m args c cc nL own D cA) (hW : gw_Wd D cA hs z A H0 u H locs) {ref K : String} {T : u_T} {N ci t k index : Nat} {x : Int64} (ht : gw_ok z t ci) (hci : ci < 10) (hc : gt_cl[ci]? = some (K, T, N)) (hin : ∀ w ∈ u_ws K T N, w ∈ gt_T) (hN : gt_nf ci = N) (hk : k < N) (hty : gt_ty ci k = 1) (hr : (T k).1 = ref) (hl : Cond.fieldLink own index ref (T k).2.1 (T k).2.2.1 ∈ gt_T) (tyf : Nat → FieldType) (htyf : ∀ k, k < N → parseFieldDescriptor (T k).2.2.1 = some (tyf k)) (hnm : ∀ a, a < N → ∀ b, b < N → a ≠ b → (T a).2.1 ≠ (T b).2.1) (hfin : (T k).2.2.2 = false) (hd : parseFieldDescriptor (T k).2.2.1 = some .long) (hdg : decode cc pc = .ok (.putfield index, 3))
    (kk : ∀ (u1 : gw_St) (H1 : Heap) (locs1 : List Loc), u1 = (gw_wl u t k x) → gw_Wd D cA hs z A H0 u1 H1 locs1 → W p l e R s m args below meth c H1 locs1 cells slots Q (F0 m (pc + 3) ls rest)) : W p l e R s m args below meth c H locs cells slots Q (F0 m pc ls (.long x :: .ref (hs t) :: rest)) := by
  obtain ⟨hx, hb, -, hown, hts, hK⟩ := C
  subst hr
  refine va_put (D := D) (v := .long x) (ty := .long) hx hb hts hin tyf htyf hnm hown hK hW.1 hW.2.1 hW.2.2.1 t (gw_ato ht hci) hc k hk (hts _ hl) (fun _ h9 => h9) hfin hd rfl rfl (by simp [gw_fs, hN, hk]) hdg (fun H1 locs1 hP hD hS => kk _ H1 locs1 rfl (gw_Wd.put ?_ hP hD hS hW.2.2.2))
  rw [gw_fs_set (u1 := gw_wl u t k x) hty gw_fv_l0 (fun j hj => gw_fv_l hj)]
  exact gw_set (gw_e0 ht.2 hci) (fun q hq => gw_eq rfl (gw_wl_ne hq) rfl)
theorem gw_putr (C : gw_Cx p s m args c cc nL own D cA) (hW : gw_Wd D cA hs z A H0 u H locs) {ref K : String} {T : u_T} {N ci t k index q ty : Nat} {fty : FieldType} (ht : gw_ok z t ci) (hq : gw_ok z q (gt_rk ci k)) (hci : ci < 10) (hc : gt_cl[ci]? = some (K, T, N)) (hin : ∀ w ∈ u_ws K T N, w ∈ gt_T) (hN : gt_nf ci = N) (hk : k < N) (hty : gt_ty ci k = ty + 2) (hr : (T k).1 = ref) (hl : Cond.fieldLink own index ref (T k).2.1 (T k).2.2.1 ∈ gt_T) (tyf : Nat → FieldType) (htyf : ∀ k, k < N → parseFieldDescriptor (T k).2.2.1 = some (tyf k)) (hnm : ∀ a, a < N → ∀ b, b < N → a ≠ b → (T a).2.1 ≠ (T b).2.1) (hfin : (T k).2.2.2 = false) (hd : parseFieldDescriptor (T k).2.2.1 = some fty) (hn : ∀ a, narrow fty (.ref a) = .ref a) (hfit : ∀ a, fits fty (.ref a) = true) (hdg : decode cc pc = .ok (.putfield index, 3))
    (kk : ∀ (u1 : gw_St) (H1 : Heap) (locs1 : List Loc), u1 = (gw_wr u t k (q + 1)) → gw_Wd D cA hs z A H0 u1 H1 locs1 → W p l e R s m args below meth c H1 locs1 cells slots Q (F0 m (pc + 3) ls rest)) : W p l e R s m args below meth c H locs cells slots Q (F0 m pc ls (.ref (hs q) :: .ref (hs t) :: rest)) := by
  obtain ⟨hx, hb, -, hown, hts, hK⟩ := C
  subst hr
  refine va_put (D := D) (v := .ref (hs q)) (ty := fty) hx hb hts hin tyf htyf hnm hown hK hW.1 hW.2.1 hW.2.2.1 t (gw_ato ht hci) hc k hk (hts _ hl) (fun _ h9 => h9) hfin hd (hn _) (hfit _) (by simp [gw_fs, hN, hk]) hdg (fun H1 locs1 hP hD hS => kk _ H1 locs1 rfl (gw_Wd.put ?_ hP hD hS (gw_wt_wr hW.2.2.2 ht hq)))
  rw [gw_fs_set (u1 := gw_wr u t k (q + 1)) hty gw_fv_r0 (fun j hj => gw_fv_r hj)]
  exact gw_set (gw_e0 ht.2 hci) (fun q hq => gw_eq rfl rfl (gw_wr_ne hq))
theorem gw_putF (C : gw_Cx p s m args c cc nL own D cA) (hW : gw_Wd D cA hs z A H0 u H locs) {ref K : String} {T : u_T} {N ci t k index q ty : Nat} {fty : FieldType} (ht : gw_ok z t ci) (hq : gw_ok z q (gt_rk ci k)) (hci : ci < 10) (hc : gt_cl[ci]? = some (K, T, N)) (hin : ∀ w ∈ u_ws K T N, w ∈ gt_T) (hN : gt_nf ci = N) (hk : k < N) (hty : gt_ty ci k = ty + 2) (hr : (T k).1 = ref) (hl : Cond.fieldLink own index ref (T k).2.1 (T k).2.2.1 ∈ gt_T) (tyf : Nat → FieldType) (htyf : ∀ k, k < N → parseFieldDescriptor (T k).2.2.1 = some (tyf k)) (hnm : ∀ a, a < N → ∀ b, b < N → a ≠ b → (T a).2.1 ≠ (T b).2.1) (hfin : (T k).2.2.2 = true) (hin2 : meth.name = "<init>") (hdecl : (T k).1 = own) (hd : parseFieldDescriptor (T k).2.2.1 = some fty) (hn : ∀ a, narrow fty (.ref a) = .ref a) (hfit : ∀ a, fits fty (.ref a) = true) (hdg : decode cc pc = .ok (.putfield index, 3))
    (kk : ∀ (u1 : gw_St) (H1 : Heap) (locs1 : List Loc), u1 = (gw_wr u t k (q + 1)) → gw_Wd D cA hs z A H0 u1 H1 locs1 → W p l e R s m args below meth c H1 locs1 cells slots Q (F0 m (pc + 3) ls rest)) : W p l e R s m args below meth c H locs cells slots Q (F0 m pc ls (.ref (hs q) :: .ref (hs t) :: rest)) := by
  obtain ⟨hx, hb, -, hown, hts, hK⟩ := C
  subst hr
  refine va_putF (D := D) (v := .ref (hs q)) (ty := fty) hx hb hts hin tyf htyf hnm hown hK hW.1 hW.2.1 hW.2.2.1 t (gw_ato ht hci) hc k hk (hts _ hl) (fun _ h9 => h9) hfin hin2 hdecl hd (hn _) (hfit _) (by simp [gw_fs, hN, hk]) hdg (fun H1 locs1 hP hD hS => kk _ H1 locs1 rfl (gw_Wd.put ?_ hP hD hS (gw_wt_wr hW.2.2.2 ht hq)))
  rw [gw_fs_set (u1 := gw_wr u t k (q + 1)) hty gw_fv_r0 (fun j hj => gw_fv_r hj)]
  exact gw_set (gw_e0 ht.2 hci) (fun q hq => gw_eq rfl rfl (gw_wr_ne hq))
theorem gw_iald (C : gw_Cx p s m args c cc nL own D cA) (hW : gw_Wd D cA hs z A H0 u H locs) {t : Nat} {i : Int32} (ht : gw_ok z t 10) (hin : ¬ (i < 0 ∨ z.2.2 t ≤ i.toNatClampNeg)) (hdg : decode cc pc = .ok (.iaload, 1))
    (kk : W p l e R s m args below meth c H locs cells slots Q (F0 m (pc + 1) ls (.int (u.1 t i.toNatClampNeg) :: rest))) : W p l e R s m args below meth c H locs cells slots Q (F0 m pc ls (.int i :: .ref (hs t) :: rest)) :=
  va_iald C.1 C.2.1 C.2.2.2.2.2 hW.1 t 0 (gw_ati ht) rfl hin hdg kk
theorem gw_lald (C : gw_Cx p s m args c cc nL own D cA) (hW : gw_Wd D cA hs z A H0 u H locs) {t : Nat} {i : Int32} (ht : gw_ok z t 11) (hin : ¬ (i < 0 ∨ z.2.2 t ≤ i.toNatClampNeg)) (hdg : decode cc pc = .ok (.laload, 1))
    (kk : W p l e R s m args below meth c H locs cells slots Q (F0 m (pc + 1) ls (.long (u.2.1 t i.toNatClampNeg) :: rest))) : W p l e R s m args below meth c H locs cells slots Q (F0 m pc ls (.int i :: .ref (hs t) :: rest)) :=
  va_lald C.1 C.2.1 C.2.2.2.2.2 hW.1 t 1 (gw_atl ht) rfl hin hdg kk
theorem gw_zald (C : gw_Cx p s m args c cc nL own D cA) (hW : gw_Wd D cA hs z A H0 u H locs) {t : Nat} {i : Int32} (ht : gw_ok z t 12) (hin : ¬ (i < 0 ∨ z.2.2 t ≤ i.toNatClampNeg)) (hdg : decode cc pc = .ok (.baload, 1))
    (kk : W p l e R s m args below meth c H locs cells slots Q (F0 m (pc + 1) ls (.int (u.1 t i.toNatClampNeg) :: rest))) : W p l e R s m args below meth c H locs cells slots Q (F0 m pc ls (.int i :: .ref (hs t) :: rest)) :=
  va_zald C.1 C.2.1 C.2.2.2.2.2 hW.1 t 2 (gw_atz ht) rfl hin hdg kk
theorem gw_aald (C : gw_Cx p s m args c cc nL own D cA) (hW : gw_Wd D cA hs z A H0 u H locs) {t q : Nat} {i : Int32} (ht : gw_ok z t 13) (hin : ¬ (i < 0 ∨ z.2.2 t ≤ i.toNatClampNeg)) (hdg : decode cc pc = .ok (.aaload, 1)) (hq : u.2.2 t i.toNatClampNeg = q + 1)
    (kk : W p l e R s m args below meth c H locs cells slots Q (F0 m (pc + 1) ls (.ref (hs q) :: rest))) : W p l e R s m args below meth c H locs cells slots Q (F0 m pc ls (.int i :: .ref (hs t) :: rest)) := by
  refine va_aldq C.1 C.2.1 C.2.2.2.2.2 hW.1 t 3 (gw_ata ht) rfl hin hdg ?_
  have hv : va_rf (gw_op hs (u.2.2 t i.toNatClampNeg)) = .ref (hs q) := by
    rw [hq]
    rfl
  rw [hv]
  exact kk
theorem gw_iast (C : gw_Cx p s m args c cc nL own D cA) (hW : gw_Wd D cA hs z A H0 u H locs) {t : Nat} {i x : Int32} (ht : gw_ok z t 10) (hin : ¬ (i < 0 ∨ z.2.2 t ≤ i.toNatClampNeg)) (hdg : decode cc pc = .ok (.iastore, 1))
    (kk : ∀ (u1 : gw_St) (H1 : Heap) (locs1 : List Loc), u1 = (gw_wi u t i.toNatClampNeg x) → gw_Wd D cA hs z A H0 u1 H1 locs1 → W p l e R s m args below meth c H1 locs1 cells slots Q (F0 m (pc + 1) ls rest)) : W p l e R s m args below meth c H locs cells slots Q (F0 m pc ls (.int x :: .int i :: .ref (hs t) :: rest)) := by
  refine va_iast C.1 C.2.1 C.2.2.2.2.2 hW.1 hW.2.1 hW.2.2.1 t 0 (gw_ati ht) rfl hin hdg (fun H1 locs1 hP hD hS => kk _ H1 locs1 rfl (gw_Wd.put ?_ hP hD hS hW.2.2.2))
  refine gw_set ?_ (fun q hq => gw_eq (gw_wi_ne hq) rfl rfl)
  unfold gw_e
  rw [ht.2, if_pos rfl, gw_wi_at]
theorem gw_zast (C : gw_Cx p s m args c cc nL own D cA) (hW : gw_Wd D cA hs z A H0 u H locs) {t : Nat} {i x : Int32} (ht : gw_ok z t 12) (hin : ¬ (i < 0 ∨ z.2.2 t ≤ i.toNatClampNeg)) (hdg : decode cc pc = .ok (.bastore, 1))
    (kk : ∀ (u1 : gw_St) (H1 : Heap) (locs1 : List Loc), u1 = (gw_wi u t i.toNatClampNeg (vp_nar .boolean x)) → gw_Wd D cA hs z A H0 u1 H1 locs1 → W p l e R s m args below meth c H1 locs1 cells slots Q (F0 m (pc + 1) ls rest)) : W p l e R s m args below meth c H locs cells slots Q (F0 m pc ls (.int x :: .int i :: .ref (hs t) :: rest)) := by
  refine va_zast C.1 C.2.1 C.2.2.2.2.2 hW.1 hW.2.1 hW.2.2.1 t 2 (gw_atz ht) rfl hin hdg (fun H1 locs1 hP hD hS => kk _ H1 locs1 rfl (gw_Wd.put ?_ hP hD hS hW.2.2.2))
  refine gw_set ?_ (fun q hq => gw_eq (gw_wi_ne hq) rfl rfl)
  unfold gw_e
  rw [ht.2, if_neg (by omega), if_neg (by omega), if_pos rfl, gw_wi_at]
theorem gw_last (C : gw_Cx p s m args c cc nL own D cA) (hW : gw_Wd D cA hs z A H0 u H locs) {t : Nat} {i : Int32} {x : Int64} (ht : gw_ok z t 11) (hin : ¬ (i < 0 ∨ z.2.2 t ≤ i.toNatClampNeg)) (hdg : decode cc pc = .ok (.lastore, 1))
    (kk : ∀ (u1 : gw_St) (H1 : Heap) (locs1 : List Loc), u1 = (gw_wl u t i.toNatClampNeg x) → gw_Wd D cA hs z A H0 u1 H1 locs1 → W p l e R s m args below meth c H1 locs1 cells slots Q (F0 m (pc + 1) ls rest)) : W p l e R s m args below meth c H locs cells slots Q (F0 m pc ls (.long x :: .int i :: .ref (hs t) :: rest)) := by
  refine va_last C.1 C.2.1 C.2.2.2.2.2 hW.1 hW.2.1 hW.2.2.1 t 1 (gw_atl ht) rfl hin hdg (fun H1 locs1 hP hD hS => kk _ H1 locs1 rfl (gw_Wd.put ?_ hP hD hS hW.2.2.2))
  refine gw_set ?_ (fun q hq => gw_eq rfl (gw_wl_ne hq) rfl)
  unfold gw_e
  rw [ht.2, if_neg (by omega), if_pos rfl, gw_wl_at]
theorem gw_leni (C : gw_Cx p s m args c cc nL own D cA) (hW : gw_Wd D cA hs z A H0 u H locs) {t : Nat} (ht : gw_ok z t 10) (hdg : decode cc pc = .ok (.arraylength, 1))
    (kk : W p l e R s m args below meth c H locs cells slots Q (F0 m (pc + 1) ls (.int (Int32.ofNat (z.2.2 t)) :: rest))) : W p l e R s m args below meth c H locs cells slots Q (F0 m pc ls (.ref (hs t) :: rest)) :=
  va_alen C.1 C.2.1 C.2.2.2.2.2 hW.1 t 0 (gw_ati ht) rfl rfl hdg kk
theorem gw_copy (C : gw_Cx p s m args c cc nL own D cA) (hW : gw_Wd D cA hs z A H0 u H locs) (hls : ls.size = nL) {index : Nat} (hl : Cond.methodLink own index arraycopyName ∈ gt_T) (hnat : Cond.native arraycopyName ∈ gt_T) (hstat : Cond.static arraycopyName ∈ gt_T) (hini : Cond.initialized "java/lang/System" ∈ gt_T) {t0 t1 : Nat} {sp dp n : Int32} (h0 : gw_ok z t0 10) (h1 : gw_ok z t1 10)
    (hg : ¬ (sp < 0 ∨ dp < 0 ∨ n < 0 ∨ z.2.2 t0 < sp.toNatClampNeg + n.toNatClampNeg ∨ z.2.2 t1 < dp.toNatClampNeg + n.toNatClampNeg)) (hframes : 1 ≤ R.frames) (hlocals : (rest.map fun v => v.category).sum + (nativeFrameWords "java/lang/System" "arraycopy" 5 + 11) ≤ R.locals) (hdg : decode cc pc = .ok (.invokestatic index, 3))
    (kk : ∀ (u1 : gw_St) (H1 : Heap) (locs1 : List Loc), u1 = (gw_cp u t0 sp.toNatClampNeg t1 dp.toNatClampNeg n.toNatClampNeg) → gw_Wd D cA hs z A H0 u1 H1 locs1 → W p l e R s m args below meth c H1 locs1 cells slots Q (F0 m (pc + 3) ls rest)) : W p l e R s m args below meth c H locs cells slots Q (F0 m pc ls (.int n :: .int dp :: .ref (hs t1) :: .int sp :: .ref (hs t0) :: rest)) := by
  obtain ⟨hx, hb, hml, hown, hts, hK⟩ := C
  simp only [not_or] at hg
  obtain ⟨g1, g2, g3, g4, g5⟩ := hg
  refine va_copyi hx hb (hml.trans hls.symm) hown (hts _ hl) (hts _ hnat) (hts _ hstat) (hts _ hini) hK hW.1 hW.2.1 hW.2.2.1 t0 t1 0 0 (gw_ati h0) (gw_ati h1) rfl rfl rfl g1 g2 g3 (by omega) (by omega) (fun _ _ => rfl) hframes hlocals hdg (fun H1 locs1 hP hD hS => kk _ H1 locs1 rfl (gw_Wd.put ?_ hP hD hS hW.2.2.2))
  refine gw_set ?_ (fun q hq => gw_eq ?_ rfl rfl)
  · unfold gw_e
    rw [h1.2, if_pos rfl]
    have : (gw_cp u t0 sp.toNatClampNeg t1 dp.toNatClampNeg n.toNatClampNeg).1 t1 = va_cpy (u.1 t0) (u.1 t1) sp.toNatClampNeg dp.toNatClampNeg n.toNatClampNeg := by
      funext j
      simp [gw_cp]
    rw [this]
  · funext j
    simp [gw_cp, hq]
end GWR
