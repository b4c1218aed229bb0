/-! MAKING: a new place -/
def gw_nz (z : gw_Sh) (k n : Nat) : gw_Sh := (z.1 + 1, va_up z.2.1 z.1 k, va_up z.2.2 z.1 n)
def gw_zr (u : gw_St) (p : Nat) : gw_St := (fun q j => if q = p then 0 else u.1 q j, fun q j => if q = p then 0 else u.2.1 q j, fun q j => if q = p then 0 else u.2.2 q j)
def gw_dv (t : Nat) : Value := match t with
  | 0 => .int 0
  | 1 => .long 0
  | _ => .null
/-- the next cells that are made are the next places -/
def gw_Fr (hs : Nat → Nat) (z : gw_Sh) (H : Heap) : Prop := ∀ j, hs (z.1 + j) = H.size + j
theorem gw_ok.nz {z : gw_Sh} {p c k n : Nat} (h : gw_ok z p c) : gw_ok (gw_nz z k n) p c := by
  have hp : p ≠ z.1 := Nat.ne_of_lt h.1
  refine ⟨Nat.lt_succ_of_lt h.1, ?_⟩
  show va_up z.2.1 z.1 k p = c
  rw [va_up_ne _ _ hp]
  exact h.2
theorem gw_ok_new {z : gw_Sh} {k n : Nat} : gw_ok (gw_nz z k n) z.1 k := ⟨Nat.lt_succ_self _, va_up_self _ _ _⟩
theorem gw_e_nz {cA : Nat → ClassId} {hs : Nat → Nat} {z : gw_Sh} {u : gw_St} {p k n : Nat} (h : p ≠ z.1) : gw_e cA hs (gw_nz z k n) (gw_zr u z.1) p = gw_e cA hs z u p := by
  have h1 : (gw_nz z k n).2.1 p = z.2.1 p := va_up_ne _ _ h
  have h2 : (gw_nz z k n).2.2 p = z.2.2 p := va_up_ne _ _ h
  have e1 : (gw_zr u z.1).1 p = u.1 p := by funext j; simp [gw_zr, h]
  have e2 : (gw_zr u z.1).2.1 p = u.2.1 p := by funext j; simp [gw_zr, h]
  have e3 : (gw_zr u z.1).2.2 p = u.2.2 p := by funext j; simp [gw_zr, h]
  rw [← gw_eq (cA := cA) (hs := hs) (z := z) e1 e2 e3]
  unfold gw_e
  rw [h1, h2]
theorem gw_push {cA : Nat → ClassId} {hs : Nat → Nat} {z : gw_Sh} {u : gw_St} {k n : Nat} {e : va_E} (he : gw_e cA hs (gw_nz z k n) (gw_zr u z.1) z.1 = e) : gw_w cA hs z u ++ [(hs z.1, e)] = gw_w cA hs (gw_nz z k n) (gw_zr u z.1) := by
  subst he
  unfold gw_w
  show _ = (List.range (z.1 + 1)).map _
  rw [List.range_succ, List.map_append]
  congr 1
  apply List.map_congr_left
  intro p hp
  rw [gw_e_nz (Nat.ne_of_lt (List.mem_range.mp hp))]
theorem gw_wt_nz {z : gw_Sh} {u : gw_St} {k n : Nat} (h : gw_wt z u) : gw_wt (gw_nz z k n) (gw_zr u z.1) := by
  intro a ha j b hb
  by_cases hc : a = z.1
  · simp [gw_zr, hc] at hb
  · have e3 : u.2.2 a j = b + 1 := by simpa [gw_zr, hc] using hb
    have hl : a < z.1 := by
      have : a < z.1 + 1 := ha
      omega
    have := h a hl j b e3
    have hk : (gw_nz z k n).2.1 a = z.2.1 a := va_up_ne _ _ hc
    rw [hk]
    exact this.nz
theorem gw_Fr.nz {hs : Nat → Nat} {z : gw_Sh} {H H1 : Heap} {k n : Nat} (h : gw_Fr hs z H) (hz : H1.size = H.size + 1) : gw_Fr hs (gw_nz z k n) H1 := by
  intro j
  have := h (j + 1)
  show hs (z.1 + 1 + j) = _
  rw [show z.1 + 1 + j = z.1 + (j + 1) by omega, this, hz]
  omega
section GWM
variable {p : Program} {l : Launch} {e : Env} {R : Room} {s : State} {m : MethodId} {args : Array Value} {below : List Frame} {meth : Method} {c : Code} {H : Heap} {locs : List Loc} {cells slots : Nat} {Q : State → Prop}
variable {cc : ByteArray} {nL pc : Nat} {ls : Array Slot} {rest : List Value} {D : va_G} {cA : Nat → ClassId} {hs : Nat → Nat} {z : gw_Sh} {A : Nat → Prop} {H0 : Heap} {u : gw_St} {own : String}
theorem gw_grow {H1 : Heap} {k n : Nat} {e0 : va_E} (hW : gw_Wd D cA hs z A H0 u H locs) (hA : ∀ q, H0.size ≤ q → A q) (hF : gw_Fr hs z H) (hz : H1.size = H.size + 1) (ho : ∀ q, q < H.size → H1[q]? = H[q]?) (he : gw_e cA hs (gw_nz z k n) (gw_zr u z.1) z.1 = e0) (hv : va_at D gt_cl (H.size, e0) H1) : gw_Wd D cA hs (gw_nz z k n) A H0 (gw_zr u z.1) H1 locs := by
  obtain ⟨hP, hD, hS, hT⟩ := hW
  have h0 : hs z.1 = H.size := hF 0
  have hk : ∀ (k : Nat) (x : Nat × va_E), (gw_w cA hs z u)[k]? = some x → H1[x.1]? = H[x.1]? := fun k x hx => ho x.1 ((hP k x hx).lt)
  refine gw_Wd.put (gw_push he) ?_ ?_ ⟨Nat.le_trans hS.1 (by omega), fun x h1 h2 => (ho x (Nat.lt_of_lt_of_le h1 hS.1)).trans (hS.2.1 x h1 h2), hS.2.2⟩ (gw_wt_nz hT)
  · refine (hP.kept hk).app (fun k x hx => ?_)
    have hz : k < 1 := (List.getElem?_eq_some_iff.mp hx).1
    rw [show k = 0 by omega] at hx
    cases hx
    rw [h0]
    exact hv
  · exact hD.push hP h0 (hA _ (by rw [h0]; exact hS.1))
theorem gw_new (C : gw_Cx p s m args c cc nL own D cA) (hW : gw_Wd D cA hs z A H0 u H locs) (hA : ∀ q, H0.size ≤ q → A q) (hF : gw_Fr hs z H) {K : String} {T : u_T} {N ci index : Nat} (hci : ci < 10) (hc : gt_cl[ci]? = some (K, T, N)) (hin : ∀ w ∈ u_ws K T N, w ∈ gt_T) (hN : gt_nf ci = N) (tyf : Nat → FieldType) (htyf : ∀ k, k < N → parseFieldDescriptor (T k).2.2.1 = some (tyf k)) (hdf : ∀ k, k < N → defaultValue (tyf k) = gw_dv (gt_ty ci k)) (h1 : Cond.classLink own index K ∈ gt_T) (h2 : Cond.instantiable K N ∈ gt_T) (h3 : Cond.initialized K ∈ gt_T) (hcells : cells + 1 ≤ R.cells) (hslots : slots + N ≤ R.slots) (hdg : decode cc pc = .ok (.new index, 3))
    (kk : ∀ (z1 : gw_Sh) (u1 : gw_St) (H1 : Heap), z1 = gw_nz z ci 0 → u1 = gw_zr u z.1 → gw_Wd D cA hs z1 A H0 u1 H1 locs → gw_Fr hs z1 H1 → gw_ok z1 z.1 ci → (∀ p d, gw_ok z p d → gw_ok z1 p d) → W p l e R s m args below meth c H1 locs (cells + 1) (slots + N) Q (F0 m (pc + 3) ls (.ref (hs z.1) :: rest))) : W p l e R s m args below meth c H locs cells slots Q (F0 m pc ls rest) := by
  obtain ⟨hx, hb, -, hown, hts, hK⟩ := C
  have hKn := hK.1 ci _ hc
  refine W.newcK hx hb hown (hts _ h1) (hts _ h2) (hts _ h3) rfl hdg hcells hslots hKn.2.1 rfl fun H1 kC hkC e1 z1 o1 => ?_
  have h0 : hs z.1 = H.size := hF 0
  have hfs : ∀ j, j < N → defaultValue (tyf j) = vp_V (gw_fs hs (gw_zr u z.1) ci z.1) j := by
    intro j hj
    have e2 := gw_fsk (hs := hs) (u := gw_zr u z.1) (p := z.1) hN hj (rfl : gt_ty ci j = gt_ty ci j)
    rw [hdf j hj]
    unfold vp_V
    rw [List.getD_eq_getElem?_getD, e2]
    show gw_dv (gt_ty ci j) = gw_fv hs (gw_zr u z.1) z.1 j (gt_ty ci j)
    generalize gt_ty ci j = t
    match t with
    | 0 => simp [gw_dv, gw_fv, gw_zr]
    | 1 => simp [gw_dv, gw_fv, gw_zr]
    | t + 2 => simp [gw_dv, gw_fv, gw_zr, gw_rf]
  have hg := gw_grow (k := ci) (n := 0) hW hA hF z1 o1 (gw_e0 (va_up_self _ _ _) hci) ⟨_, hc, (u_born tyf hts hin hKn hkC e1 htyf).to hfs⟩
  have := kk _ _ H1 rfl rfl hg (hF.nz z1) gw_ok_new (fun _ _ h => h.nz)
  rw [h0] at this
  exact this
theorem gw_newi (C : gw_Cx p s m args c cc nL own D cA) (hW : gw_Wd D cA hs z A H0 u H locs) (hA : ∀ q, H0.size ≤ q → A q) (hF : gw_Fr hs z H) {n : Int32} (h1 : Cond.arrayClass .int ∈ gt_T) (hn : ¬ (n < 0 ∨ 60000000 < n.toNatClampNeg)) (hcells : cells + 1 ≤ R.cells) (hslots : slots + n.toNatClampNeg ≤ R.slots) (hdg : decode cc pc = .ok (.newarray .int, 2))
    (kk : ∀ (z1 : gw_Sh) (u1 : gw_St) (H1 : Heap), z1 = gw_nz z 10 n.toNatClampNeg → u1 = gw_zr u z.1 → gw_Wd D cA hs z1 A H0 u1 H1 locs → gw_Fr hs z1 H1 → gw_ok z1 z.1 10 → (∀ p d, gw_ok z p d → gw_ok z1 p d) → W p l e R s m args below meth c H1 locs (cells + 1) (slots + n.toNatClampNeg) Q (F0 m (pc + 2) ls (.ref (hs z.1) :: rest))) : W p l e R s m args below meth c H locs cells slots Q (F0 m pc ls (.int n :: rest)) := by
  obtain ⟨hx, hb, -, hown, hts, hK⟩ := C
  simp only [not_or] at hn
  have h0 : hs z.1 = H.size := hF 0
  refine va_newaK (atype := .int) hx hb (hts _ h1) rfl hdg rfl hn.1 rfl (Nat.le_trans (Nat.mul_le_mul (Nat.not_lt.mp hn.2) (show componentBytes .int ≤ 8 by decide)) (by decide)) hcells hslots rfl fun H1 c1 e1 z1 o1 hAr hNm => ?_
  have hKt := hK.2 0 _ (rfl : (gw_ty cA)[0]? = some (cA 0, .int))
  have hcc : c1 = cA 0 := Option.some.inj (hNm.symm.trans hKt.2)
  subst hcc
  have hz : (gw_zr u z.1).1 z.1 = fun _ => 0 := by funext j; simp [gw_zr]
  have he : gw_e cA hs (gw_nz z 10 n.toNatClampNeg) (gw_zr u z.1) z.1 = .inl (cA 0, n.toNatClampNeg, .inl (fun _ => 0)) := by
    unfold gw_e
    rw [show (gw_nz z 10 n.toNatClampNeg).2.1 z.1 = 10 from va_up_self _ _ _, show (gw_nz z 10 n.toNatClampNeg).2.2 z.1 = n.toNatClampNeg from va_up_self _ _ _, hz]
    rfl
  have hg := gw_grow (k := 10) (n := n.toNatClampNeg) hW hA hF z1 o1 he (by exact e1)
  have := kk _ _ H1 rfl rfl hg (hF.nz z1) gw_ok_new (fun _ _ h => h.nz)
  rw [h0] at this
  exact this
theorem gw_newl (C : gw_Cx p s m args c cc nL own D cA) (hW : gw_Wd D cA hs z A H0 u H locs) (hA : ∀ q, H0.size ≤ q → A q) (hF : gw_Fr hs z H) {n : Int32} (h1 : Cond.arrayClass .long ∈ gt_T) (hn : ¬ (n < 0 ∨ 60000000 < n.toNatClampNeg)) (hcells : cells + 1 ≤ R.cells) (hslots : slots + n.toNatClampNeg ≤ R.slots) (hdg : decode cc pc = .ok (.newarray .long, 2))
    (kk : ∀ (z1 : gw_Sh) (u1 : gw_St) (H1 : Heap), z1 = gw_nz z 11 n.toNatClampNeg → u1 = gw_zr u z.1 → gw_Wd D cA hs z1 A H0 u1 H1 locs → gw_Fr hs z1 H1 → gw_ok z1 z.1 11 → (∀ p d, gw_ok z p d → gw_ok z1 p d) → W p l e R s m args below meth c H1 locs (cells + 1) (slots + n.toNatClampNeg) Q (F0 m (pc + 2) ls (.ref (hs z.1) :: rest))) : W p l e R s m args below meth c H locs cells slots Q (F0 m pc ls (.int n :: rest)) := by
  obtain ⟨hx, hb, -, hown, hts, hK⟩ := C
  simp only [not_or] at hn
  have h0 : hs z.1 = H.size := hF 0
  refine va_newaK (atype := .long) hx hb (hts _ h1) rfl hdg rfl hn.1 rfl (Nat.le_trans (Nat.mul_le_mul (Nat.not_lt.mp hn.2) (show componentBytes .long ≤ 8 by decide)) (by decide)) hcells hslots rfl fun H1 c1 e1 z1 o1 hAr hNm => ?_
  have hKt := hK.2 1 _ (rfl : (gw_ty cA)[1]? = some (cA 1, .long))
  have hcc : c1 = cA 1 := Option.some.inj (hNm.symm.trans hKt.2)
  subst hcc
  have hz : (gw_zr u z.1).2.1 z.1 = fun _ => 0 := by funext j; simp [gw_zr]
  have he : gw_e cA hs (gw_nz z 11 n.toNatClampNeg) (gw_zr u z.1) z.1 = .inl (cA 1, n.toNatClampNeg, .inr (.inl (fun _ => 0))) := by
    unfold gw_e
    rw [show (gw_nz z 11 n.toNatClampNeg).2.1 z.1 = 11 from va_up_self _ _ _, show (gw_nz z 11 n.toNatClampNeg).2.2 z.1 = n.toNatClampNeg from va_up_self _ _ _, hz]
    rfl
  have hg := gw_grow (k := 11) (n := n.toNatClampNeg) hW hA hF z1 o1 he (by exact e1)
  have := kk _ _ H1 rfl rfl hg (hF.nz z1) gw_ok_new (fun _ _ h => h.nz)
  rw [h0] at this
  exact this
theorem gw_newz (C : gw_Cx p s m args c cc nL own D cA) (hW : gw_Wd D cA hs z A H0 u H locs) (hA : ∀ q, H0.size ≤ q → A q) (hF : gw_Fr hs z H) {n : Int32} (h1 : Cond.arrayClass .boolean ∈ gt_T) (hn : ¬ (n < 0 ∨ 60000000 < n.toNatClampNeg)) (hcells : cells + 1 ≤ R.cells) (hslots : slots + n.toNatClampNeg ≤ R.slots) (hdg : decode cc pc = .ok (.newarray .boolean, 2))
    (kk : ∀ (z1 : gw_Sh) (u1 : gw_St) (H1 : Heap), z1 = gw_nz z 12 n.toNatClampNeg → u1 = gw_zr u z.1 → gw_Wd D cA hs z1 A H0 u1 H1 locs → gw_Fr hs z1 H1 → gw_ok z1 z.1 12 → (∀ p d, gw_ok z p d → gw_ok z1 p d) → W p l e R s m args below meth c H1 locs (cells + 1) (slots + n.toNatClampNeg) Q (F0 m (pc + 2) ls (.ref (hs z.1) :: rest))) : W p l e R s m args below meth c H locs cells slots Q (F0 m pc ls (.int n :: rest)) := by
  obtain ⟨hx, hb, -, hown, hts, hK⟩ := C
  simp only [not_or] at hn
  have h0 : hs z.1 = H.size := hF 0
  refine va_newaK (atype := .boolean) hx hb (hts _ h1) rfl hdg rfl hn.1 rfl (Nat.le_trans (Nat.mul_le_mul (Nat.not_lt.mp hn.2) (show componentBytes .boolean ≤ 8 by decide)) (by decide)) hcells hslots rfl fun H1 c1 e1 z1 o1 hAr hNm => ?_
  have hKt := hK.2 2 _ (rfl : (gw_ty cA)[2]? = some (cA 2, .boolean))
  have hcc : c1 = cA 2 := Option.some.inj (hNm.symm.trans hKt.2)
  subst hcc
  have hz : (gw_zr u z.1).1 z.1 = fun _ => 0 := by funext j; simp [gw_zr]
  have he : gw_e cA hs (gw_nz z 12 n.toNatClampNeg) (gw_zr u z.1) z.1 = .inl (cA 2, n.toNatClampNeg, .inl (fun _ => 0)) := by
    unfold gw_e
    rw [show (gw_nz z 12 n.toNatClampNeg).2.1 z.1 = 12 from va_up_self _ _ _, show (gw_nz z 12 n.toNatClampNeg).2.2 z.1 = n.toNatClampNeg from va_up_self _ _ _, hz]
    rfl
  have hg := gw_grow (k := 12) (n := n.toNatClampNeg) hW hA hF z1 o1 he (by exact e1)
  have := kk _ _ H1 rfl rfl hg (hF.nz z1) gw_ok_new (fun _ _ h => h.nz)
  rw [h0] at this
  exact this
theorem gw_newq (C : gw_Cx p s m args c cc nL own D cA) (hW : gw_Wd D cA hs z A H0 u H locs) (hA : ∀ q, H0.size ≤ q → A q) (hF : gw_Fr hs z H) {n : Int32} {index : Nat} (h1 : Cond.classLink own index R_Fraction ∈ gt_T) (h2 : va_AO R_Fraction s) (hn : ¬ (n < 0 ∨ 60000000 < n.toNatClampNeg)) (hcells : cells + 1 ≤ R.cells) (hslots : slots + n.toNatClampNeg ≤ R.slots) (hdg : decode cc pc = .ok (.anewarray index, 3))
    (kk : ∀ (z1 : gw_Sh) (u1 : gw_St) (H1 : Heap), z1 = gw_nz z 13 n.toNatClampNeg → u1 = gw_zr u z.1 → gw_Wd D cA hs z1 A H0 u1 H1 locs → gw_Fr hs z1 H1 → gw_ok z1 z.1 13 → (∀ p d, gw_ok z p d → gw_ok z1 p d) → W p l e R s m args below meth c H1 locs (cells + 1) (slots + n.toNatClampNeg) Q (F0 m (pc + 3) ls (.ref (hs z.1) :: rest))) : W p l e R s m args below meth c H locs cells slots Q (F0 m pc ls (.int n :: rest)) := by
  obtain ⟨hx, hb, -, hown, hts, hK⟩ := C
  simp only [not_or] at hn
  have h0 : hs z.1 = H.size := hF 0
  refine W.anew hx hb hown (hts _ h1) (va_AO.use h2) rfl hdg rfl hn.1 (by omega) hcells hslots fun c1 kA comp f1 f2 f3 f4 => ?_
  generalize hH1 : H.push ({ cls := c1, slots := Array.replicate n.toNatClampNeg .null, vm := .none } : Cell) = H1
  have z1 : H1.size = H.size + 1 := by rw [← hH1, Array.size_push]
  have e1 : H1[H.size]? = some (arrV c1 n.toNatClampNeg (fun _ => .null)) := by rw [← hH1, Array.getElem?_push_size, ← arrV_new]
  have o1 : ∀ q : Nat, q < H.size → H1[q]? = H[q]? := fun q hq => by rw [← hH1, Array.getElem?_push, if_neg (Nat.ne_of_lt hq)]
  obtain ⟨-, kA2, comp2, g1, g2, g3, g4⟩ := hK.2 3 _ (rfl : (gw_ty cA)[3]? = some (cA 3, .object R_Fraction))
  have hcc : c1 = cA 3 := Option.some.inj (f1.symm.trans g4)
  subst hcc
  have hz : (fun j => gw_op hs ((gw_zr u z.1).2.2 z.1 j)) = fun _ => none := by funext j; simp [gw_zr, gw_op]
  have he : gw_e cA hs (gw_nz z 13 n.toNatClampNeg) (gw_zr u z.1) z.1 = .inl (cA 3, n.toNatClampNeg, .inr (.inr (.inr (.inr (fun _ => none))))) := by
    unfold gw_e
    rw [show (gw_nz z 13 n.toNatClampNeg).2.1 z.1 = 13 from va_up_self _ _ _, show (gw_nz z 13 n.toNatClampNeg).2.2 z.1 = n.toNatClampNeg from va_up_self _ _ _, hz]
    rfl
  have hg := gw_grow (k := 13) (n := n.toNatClampNeg) hW hA hF z1 o1 he (by show H1[H.size]? = some (vp_cell _ _); rw [vp_cell_q]; exact e1)
  have := kk _ _ H1 rfl rfl hg (hF.nz z1) gw_ok_new (fun _ _ h => h.nz)
  rw [h0] at this
  exact this
theorem gw_aast (C : gw_Cx p s m args c cc nL own D cA) (hW : gw_Wd D cA hs z A H0 u H locs) {t q : Nat} {i : Int32} (ht : gw_ok z t 13) (hq : gw_ok z q 6) (hin : ¬ (i < 0 ∨ z.2.2 t ≤ i.toNatClampNeg)) (hdg : decode cc pc = .ok (.aastore, 1))
    (kk : ∀ (u1 : gw_St) (H1 : Heap) (locs1 : List Loc), u1 = gw_wr u t i.toNatClampNeg (q + 1) → gw_Wd D cA hs z A H0 u1 H1 locs1 → W p l e R s m args below meth c H1 locs1 cells slots Q (F0 m (pc + 1) ls rest)) : W p l e R s m args below meth c H locs cells slots Q (F0 m pc ls (.ref (hs q) :: .int i :: .ref (hs t) :: rest)) := by
  refine va_astq C.1 C.2.1 C.2.2.2.2.2 hW.1 hW.2.1 hW.2.2.1 t 3 q 6 (r := (R_Fraction, F_Fraction, 2)) (gw_ata ht) rfl (gw_ato hq (by decide)) rfl hin hdg (fun H1 locs1 hP hD hS => kk _ H1 locs1 rfl (gw_Wd.put ?_ hP hD hS (gw_wt_wr hW.2.2.2 ht hq)))
  refine gw_set ?_ (fun q hq => gw_eq rfl rfl (gw_wr_ne hq))
  unfold gw_e
  rw [ht.2, if_neg (by omega), if_neg (by omega), if_neg (by omega), if_pos rfl]
  have : (fun j => gw_op hs ((gw_wr u t i.toNatClampNeg (q + 1)).2.2 t j)) = va_up (fun j => gw_op hs (u.2.2 t j)) i.toNatClampNeg (some (hs q)) := by
    funext j
    by_cases hj : j = i.toNatClampNeg
    · subst hj
      simp [gw_wr, va_up, gw_op]
    · simp [gw_wr, va_up, hj]
  rw [this]
end GWM
/-! constructors: the world grows -/
def gw_rc (f n mc ms : Nat) : Room := { frames := f, cells := mc, slots := ms, locals := n }
/-- what stands behind a constructor -/
def gw_Bc (D : va_G) (cA : Nat → ClassId) (hs : Nat → Nat) (z : gw_Sh) (A : Nat → Prop) (mc : Nat) (r : gw_Sh × gw_St) (t : State) : Prop := gw_At D cA hs r.1 A r.2 t ∧ r.1.1 = z.1 + mc ∧ ∀ p d, gw_ok z p d → gw_ok r.1 p d
def gw_PreC (D : va_G) (cA : Nat → ClassId) (hs : Nat → Nat) (z : gw_Sh) (u : gw_St) (sz : Nat) : State → Prop := fun U => gw_Pre D cA hs z u sz U ∧ va_AO R_Fraction U
def gw_Mc (l : Launch) (y : MethodName) (b : ByteArray) (n : Nat) (rm : Room) (av : List Value) (D : va_G) (cA : Nat → ClassId) (hs : Nat → Nat) (z : gw_Sh) (u : gw_St) (sz mc ms : Nat) (r0 : gw_Sh × gw_St) : Prop :=
  Met l y (gw_ws y b n none) rm (va_Pc av (gw_PreC D cA hs z u sz)) (va_Qv (fun r => r = r0) (gw_Bc D cA hs z (gw_A hs z sz) mc) (gw_A hs z sz)) mc ms (gw_A hs z sz)
abbrev gw_Gc (p : Program) (l : Launch) (e : Env) (R : Room) (s : State) (m : MethodId) (args : Array Value) (below : List Frame) (meth : Method) (c : Code) (D : va_G) (cA : Nat → ClassId) (hs : Nat → Nat) (z0 : gw_Sh) (r0 : gw_Sh × gw_St) (mc ms : Nat) (H : Heap) (locs : List Loc) (cells slots : Nat) (ls : Array Slot) (pc : Nat) (st : List Value) : Prop := W p l e R s m args below meth c H locs cells slots (MQ below (va_Qv (fun r => r = r0) (gw_Bc D cA hs z0 (gw_A hs z0 s.heap.size) mc) (gw_A hs z0 s.heap.size)) args s mc ms (gw_A hs z0 s.heap.size)) (F0 m pc ls st)
section GWN
variable {p : Program} {l : Launch} {e : Env} {R : Room} {s : State} {m : MethodId} {args : Array Value} {below : List Frame} {meth : Method} {c : Code} {H : Heap} {locs : List Loc} {cells slots : Nat} {Q : State → Prop}
variable {cc : ByteArray} {nL pc : Nat} {ls : Array Slot} {rest : List Value} {D : va_G} {cA : Nat → ClassId} {hs : Nat → Nat} {z z0 : gw_Sh} {A : Nat → Prop} {u : gw_St} {own : String}
theorem gw_vretC (C : gw_Cx p s m args c cc nL own D cA) (hW : gw_Wd D cA hs z (gw_A hs z0 s.heap.size) s.heap u H locs) (hzc : z.1 = z0.1 + cells) (hz : ∀ p d, gw_ok z0 p d → gw_ok z p d) (hr : meth.sig.returnType = none) (hlocks : meth.locks = false) (hdg : decode cc pc = .ok (.return_, 1)) : gw_Gc p l e R s m args below meth c D cA hs z0 (z, u) cells slots H locs cells slots ls pc [] :=
  W.vret C.1 C.2.1 hr (fun t ht hw => ⟨⟨(z, u), rfl, rfl, ⟨by rw [ht]; exact hW.1, va_K.moved hw.alike C.2.2.2.2.2, hW.2.1, hW.2.2.2⟩, hzc, hz⟩, hW.2.2.1.F ht⟩) hW.2.2.1.2.2 hdg hlocks
theorem gw_callI (C : gw_Cx p s m args c cc nL own D cA) (hAO : va_AO R_Fraction s) (hW : gw_Wd D cA hs z A s.heap u H locs) (hA : ∀ q, s.heap.size ≤ q → A q) (hls : ls.size = nL) {y : MethodName} {b : ByteArray} {n k index t mc ms : Nat} {rm : Room} {As : List Value} {r0 : gw_Sh × gw_St}
    (M : gw_Mth y b n none k) (hM : gw_Mc l y b n rm (.ref (hs t) :: As) D cA hs z u H.size mc ms r0) (hl : Cond.methodLink own index y ∈ gt_T) (hi : Cond.instanceMethod y ∈ gt_T) (hy : y.name = "<init>") (hrc : rm.cells = mc) (hrs : rm.slots = ms) (hR : rm.frames + 1 ≤ R.frames ∧ 8 + (n + 11) + rm.locals ≤ R.locals) (hcs : cells + mc ≤ R.cells ∧ slots + ms ≤ R.slots) (hn : As.length = k) {st0 : List Value} (hst : st0 = As.reverse ++ .ref (hs t) :: rest) (hro : (rest.map fun v => v.category).sum ≤ 8) (hdg : decode cc pc = .ok (.invokespecial index, 3))
    (kk : ∀ (H1 : Heap) (locs1 : List Loc), gw_Wd D cA hs r0.1 A s.heap r0.2 H1 locs1 → r0.1.1 = z.1 + mc → (∀ p d, gw_ok z p d → gw_ok r0.1 p d) → W p l e R s m args below meth c H1 locs1 (cells + mc) (slots + ms) Q (F0 m (pc + 3) ls rest)) : W p l e R s m args below meth c H locs cells slots Q (F0 m pc ls st0) := by
  obtain ⟨hx, hb, hml, hown, hts, hK⟩ := C
  have hF := gw_A_all hW hA
  refine va_callv (va_runI (b := hs t) ⟨hx, hb, hml, hown, hts⟩ hM ⟨gw_callB hts M hl hrc hrs hR, hy, hts _ hi⟩ ⟨fun a U g mk q => ⟨(gw_blind (av := .ref (hs t) :: As) a U g mk ⟨q.1, q.2.1⟩).1, (gw_blind (av := .ref (hs t) :: As) a U g mk ⟨q.1, q.2.1⟩).2, q.2.2⟩, fun U hU hw => ⟨(gw_pre hK hW (av := .ref (hs t) :: As) U hU hw).1, (gw_pre hK hW (av := .ref (hs t) :: As) U hU hw).2, va_AO.moved hw.alike hAO⟩⟩ rfl hn hls hst (lv_room hro) hdg hcs) hW.2.2.1 (fun q _ h => hF q h) hF (fun w t H1 locs1 ht hvm hw hB hz1 hk1 hS => ?_)
  cases hw
  obtain ⟨⟨b1, -, b3, b4⟩, b5, b6⟩ := hB
  rw [ht] at b1
  exact kk H1 locs1 ⟨b1, b3.weaken (fun j q _ h => hF q.1 h), hS, b4⟩ b5 b6
/-- the next cell that is made is the next place -/
theorem gw_frW {g : JFrame} (hW : gw_Wd D cA hs z A s.heap u H locs) (hh : ∀ j, hs (z0.1 + j) = s.heap.size + j) (hzc : z.1 = z0.1 + cells) (k : gw_Fr hs z H → W p l e R s m args below meth c H locs cells slots Q g) : W p l e R s m args below meth c H locs cells slots Q g := by
  intro T hT X
  have h1 : T.heap.size ≤ s.heap.size + cells := X.heapSize
  have h2 : s.heap.size + cells ≤ H.size := by
    cases hc : cells with
    | zero => exact hW.2.2.1.1
    | succ n =>
      have h3 := (hW.1 (z0.1 + n) _ (gw_at (by omega))).lt
      have h4 : hs (z0.1 + n) < H.size := h3
      rw [hh] at h4
      omega
  refine k (fun j => ?_) T hT X
  rw [hT] at h1
  rw [hzc, Nat.add_assoc, hh]
  omega
end GWN
theorem gw_enterC {l : Launch} {y : MethodName} {b : ByteArray} {n mc ms : Nat} {rm : Room} {av : List Value} {D : va_G} {cA : Nat → ClassId} {hs : Nat → Nat} {z : gw_Sh} {u : gw_St} {sz : Nat} {Qc : Array Value → State → Outcome → State → Prop}
    (hy : plainName y.cls = true) (hn : (lg_sl av).length ≤ n) (hh : ∀ j, hs (z.1 + j) = sz + j)
    (body : ∀ (p : Program) (e : Env) (s : State) (m : MethodId) (below : List Frame) (meth : Method) (c : Code) (ls : Array Slot), s.heap.size = sz → gw_Cx p s m av.toArray c b n y.cls D cA → gw_Wd D cA hs z (gw_A hs z s.heap.size) s.heap u s.heap [] → (∀ j, hs (z.1 + j) = s.heap.size + j) → va_AO R_Fraction s → meth.sig.returnType = none → meth.locks = false → meth.name = y.name → lv_has ls n (lv_args 0 av) →
      W p l e rm s m av.toArray below meth c s.heap [] 0 0 (MQ below Qc av.toArray s mc ms (gw_A hs z sz)) (F0 m 0 ls [])) : Met l y (gw_ws y b n none) rm (va_Pc av (gw_PreC D cA hs z u sz)) Qc mc ms (gw_A hs z sz) := by
  refine Met.ofW (cc := b) (maxL := n) (ret := none) hy rfl ?_
  intro p e s m args below meth c s₁ B hml hv
  obtain ⟨rfl, ⟨hsz, hP, hK, hD0, hT⟩, hAO⟩ := hv
  have hts := atoms_spec (ws := gw_ws y b n none) B.pre
  have hl := lv_entry av (n := n) hn
  rw [lg_entry_eq]
  exact body p e s m below meth c _ hsz ⟨B.exec, B.bytes, hml, findClass_of_methodNamed B.named, fun w hw => hts w (List.mem_cons_of_mem _ hw), hK⟩ ⟨hP, gw_D_self hD0, va_S.rf, hT⟩ (by intro j; rw [hsz]; exact hh j) hAO B.returns B.notSynchronized (name_of_methodNamed B.named B.method).1 hl
def gf_cz {β : Type} (x : Option (gw_Sh × gw_St)) (f : gw_Sh → gw_St → Option β) : Option β := match x with
  | none => none
  | some (z, w) => f z w
theorem gf_cz_ok {β : Type} {x : Option (gw_Sh × gw_St)} {f : gw_Sh → gw_St → Option β} {r : β} (h : gf_cz x f = some r) : ∃ z w, x = some (z, w) ∧ f z w = some r := by
  match x, h with
  | none, h => cases h
  | some (z, w), h => exact ⟨z, w, rfl, h⟩
theorem gw_rc_ok (f n a b : Nat) : f ≤ (gw_rc f n a b).frames ∧ n ≤ (gw_rc f n a b).locals ∧ a ≤ (gw_rc f n a b).cells ∧ b ≤ (gw_rc f n a b).slots := ⟨Nat.le_refl f, Nat.le_refl n, Nat.le_refl a, Nat.le_refl b⟩
theorem gw_hzc {a b d c e f : Nat} (h1 : a = b + c) (h2 : b = d + e) (h3 : e + c = f) : a = d + f := by omega
