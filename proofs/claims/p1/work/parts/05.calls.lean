/-! CONTRACTS over the world, and calls -/
def gw_Pre (D : va_G) (cA : Nat → ClassId) (hs : Nat → Nat) (z : gw_Sh) (u : gw_St) (sz : Nat) : State → Prop := fun U =>
  U.heap.size = sz ∧ va_P D gt_cl (gw_w cA hs z u) U.heap ∧ va_K D gt_cl (gw_ty cA) U ∧ va_D (fun _ => True) (gw_w cA hs z u) ∧ gw_wt z u
def gw_A (hs : Nat → Nat) (z : gw_Sh) (sz : Nat) : Nat → Prop := fun q => (∃ p, p < z.1 ∧ q = hs p) ∨ sz ≤ q
def gw_At (D : va_G) (cA : Nat → ClassId) (hs : Nat → Nat) (z : gw_Sh) (A : Nat → Prop) (u : gw_St) (t : State) : Prop :=
  va_P D gt_cl (gw_w cA hs z u) t.heap ∧ va_K D gt_cl (gw_ty cA) t ∧ va_D A (gw_w cA hs z u) ∧ gw_wt z u
def gw_ws (y : MethodName) (b : ByteArray) (n : Nat) (ret : Option FieldType) : List Cond := Cond.code y b n ret :: gt_T
def gw_rm (f n : Nat) : Room := { frames := f, cells := 0, slots := 0, locals := n }
/-- contracts of methods that make nothing: an int, a long, nothing comes back -/
def gw_Mi (l : Launch) (y : MethodName) (b : ByteArray) (n : Nat) (ret : Option FieldType) (rm : Room) (av : List Value) (D : va_G) (cA : Nat → ClassId) (hs : Nat → Nat) (z : gw_Sh) (u : gw_St) (sz : Nat) (r0 : Int32 × gw_St) : Prop :=
  Met l y (gw_ws y b n ret) rm (va_Pc av (gw_Pre D cA hs z u sz)) (va_Qi (fun r w => (r, w) = r0) (gw_At D cA hs z (gw_A hs z sz)) (gw_A hs z sz)) 0 0 (gw_A hs z sz)
def gw_Ml (l : Launch) (y : MethodName) (b : ByteArray) (n : Nat) (ret : Option FieldType) (rm : Room) (av : List Value) (D : va_G) (cA : Nat → ClassId) (hs : Nat → Nat) (z : gw_Sh) (u : gw_St) (sz : Nat) (r0 : Int64 × gw_St) : Prop :=
  Met l y (gw_ws y b n ret) rm (va_Pc av (gw_Pre D cA hs z u sz)) (va_Ql (fun r w => (r, w) = r0) (gw_At D cA hs z (gw_A hs z sz)) (gw_A hs z sz)) 0 0 (gw_A hs z sz)
def gw_Mv (l : Launch) (y : MethodName) (b : ByteArray) (n : Nat) (ret : Option FieldType) (rm : Room) (av : List Value) (D : va_G) (cA : Nat → ClassId) (hs : Nat → Nat) (z : gw_Sh) (u : gw_St) (sz : Nat) (r0 : gw_St) : Prop :=
  Met l y (gw_ws y b n ret) rm (va_Pc av (gw_Pre D cA hs z u sz)) (va_Qv (fun w => w = r0) (gw_At D cA hs z (gw_A hs z sz)) (gw_A hs z sz)) 0 0 (gw_A hs z sz)
/-- what a call needs of the tables about the method that is called: k arguments besides this -/
def gw_Mth (y : MethodName) (b : ByteArray) (n : Nat) (ret : Option FieldType) (k : Nat) : Prop :=
  Cond.code y b n ret ∈ gt_T ∧ Cond.initialized y.cls ∈ gt_T ∧ (y.cls ≠ "java/lang/invoke/MethodHandle" ∧ y.cls ≠ "java/lang/invoke/VarHandle") ∧ (parseMethodDescriptor y.desc).map (fun d => d.parameters.length) = some k
theorem gw_A_all {hs : Nat → Nat} {z : gw_Sh} {D : va_G} {cA : Nat → ClassId} {u : gw_St} {A : Nat → Prop} {H0 H : Heap} {locs : List Loc} (hW : gw_Wd D cA hs z A H0 u H locs) (hA : ∀ q, H0.size ≤ q → A q) : ∀ q, gw_A hs z H.size q → A q := by
  intro q h
  rcases h with ⟨p, hp, rfl⟩ | h
  · exact hW.2.1.2 p _ (gw_at hp)
  · exact hA q (Nat.le_trans hW.2.2.1.1 h)
theorem gw_D_self {hs : Nat → Nat} {z : gw_Sh} {cA : Nat → ClassId} {u : gw_St} {A : Nat → Prop} {sz : Nat} (h : va_D A (gw_w cA hs z u)) : va_D (gw_A hs z sz) (gw_w cA hs z u) := by
  refine ⟨h.1, fun k q hk => ?_⟩
  have hl : k < z.1 := by
    have := (List.getElem?_eq_some_iff.mp hk).1
    simpa [gw_w] using this
  rw [gw_at hl] at hk
  cases hk
  exact Or.inl ⟨k, hl, rfl⟩
theorem gw_blind {av : List Value} {D : va_G} {cA : Nat → ClassId} {hs : Nat → Nat} {z : gw_Sh} {u : gw_St} {sz : Nat} : FrameBlind (va_Pc av (gw_Pre D cA hs z u sz)) := by
  intro a U g mk q
  obtain ⟨q0, q1, qP, qK, qD, qT⟩ := q
  exact ⟨q0, q1, qP, va_K.moved (u := U) (U := U.calling g mk a) (Vm.Alike.refl U.vm) qK, qD, qT⟩
theorem gw_pay {args : Array Value} {s : State} (hts : ∀ w ∈ gt_T, w.before args s = true) {y : MethodName} {b : ByteArray} {n : Nat} {ret : Option FieldType} (hc : Cond.code y b n ret ∈ gt_T) : ∀ w ∈ gw_ws y b n ret, ∀ (a' : Array Value) (U : State), s.WarmedH U.vm → w.before a' U = true := by
  intro w hw a' U hU
  have hm : w ∈ gt_T := by
    rcases List.mem_cons.mp hw with rfl | h
    · exact hc
    · exact h
  exact word_at hU (gt_good w hm) (hts w hm)
section GWC
variable {p : Program} {l : Launch} {e : Env} {R : Room} {s : State} {m : MethodId} {args : Array Value} {below : List Frame} {meth : Method} {c : Code} {H : Heap} {locs : List Loc} {cells slots : Nat} {Q : State → Prop}
variable {cc : ByteArray} {nL pc : Nat} {ls : Array Slot} {rest : List Value} {D : va_G} {cA : Nat → ClassId} {hs : Nat → Nat} {z : gw_Sh} {A : Nat → Prop} {u : gw_St} {own : String}
theorem gw_callB (hts : ∀ w ∈ gt_T, w.before args s = true) {y : MethodName} {b : ByteArray} {n k index mc ms : Nat} {ret : Option FieldType} {rm : Room} (M : gw_Mth y b n ret k) (hl : Cond.methodLink own index y ∈ gt_T) (hrc : rm.cells = mc) (hrs : rm.slots = ms) (hR : rm.frames + 1 ≤ R.frames ∧ 8 + (n + 11) + rm.locals ≤ R.locals) : CallB R s args own index y b n ret (gw_ws y b n ret) rm mc ms k := by
  obtain ⟨m1, m2, m3, m4⟩ := M
  refine ⟨hrc, hrs, hR.1, hR.2, gw_pay hts m1, List.mem_cons_self, hts _ m1, hts _ m2, m3, fun sig h => ?_, hts _ hl⟩
  rw [h] at m4
  exact (Option.some.inj m4).symm
/-- behind a call that made nothing: the world as the callee left it -/
theorem gw_back {u1 : gw_St} {t : State} {H1 : Heap} {locs1 : List Loc} (hW : gw_Wd D cA hs z A s.heap u H locs) (hA : ∀ q, s.heap.size ≤ q → A q) (ht : t.heap = H1) (hB : gw_At D cA hs z (gw_A hs z H.size) u1 t) (hS : va_S A s.heap H1 locs1) : gw_Wd D cA hs z A s.heap u1 H1 locs1 := by
  obtain ⟨b1, -, b3, b4⟩ := hB
  rw [ht] at b1
  exact ⟨b1, b3.weaken (fun k q _ h => gw_A_all hW hA q.1 h), hS, b4⟩
theorem gw_pre (hK : va_K D gt_cl (gw_ty cA) s) (hW : gw_Wd D cA hs z A s.heap u H locs) {av : List Value} : ∀ U : State, U.heap = H → s.WarmedH U.vm → va_Pc av (gw_Pre D cA hs z u H.size) av.toArray U := by
  intro U hU hw
  exact ⟨rfl, by rw [hU], by rw [hU]; exact hW.1, va_K.moved hw.alike hK, hW.2.1.weaken (fun _ _ _ _ => trivial), hW.2.2.2⟩
theorem gw_callVi (C : gw_Cx p s m args c cc nL own D cA) (hW : gw_Wd D cA hs z A s.heap u H locs) (hA : ∀ q, s.heap.size ≤ q → A q) (hls : ls.size = nL) {y : MethodName} {b : ByteArray} {n k index ci t : Nat} {ret : Option FieldType} {rm : Room} {As : List Value} {K : String} {T : u_T} {N : Nat} {r0 : Int32 × gw_St}
    (M : gw_Mth y b n ret k) (hM : gw_Mi l y b n ret rm (.ref (hs t) :: As) D cA hs z u H.size r0) (hl : Cond.methodLink own index y ∈ gt_T) (hi : Cond.instanceMethod y ∈ gt_T) (hse : Cond.selects K y y ∈ gt_T) (ht : gw_ok z t ci) (hci : ci < 10) (hc : gt_cl[ci]? = some (K, T, N)) (hrc : rm.cells = 0) (hrs : rm.slots = 0) (hR : rm.frames + 1 ≤ R.frames ∧ 8 + (n + 11) + rm.locals ≤ R.locals) (hcs : cells ≤ R.cells ∧ slots ≤ R.slots) (hn : As.length = k) {st0 : List Value} (hst : st0 = As.reverse ++ .ref (hs t) :: rest) (hro : (rest.map fun v => v.category).sum ≤ 8) (hdg : decode cc pc = .ok (.invokevirtual index, 3))
    (kk : ∀ (H1 : Heap) (locs1 : List Loc), gw_Wd D cA hs z A s.heap r0.2 H1 locs1 → W p l e R s m args below meth c H1 locs1 cells slots Q (F0 m (pc + 3) ls (.int r0.1 :: rest))) : W p l e R s m args below meth c H locs cells slots Q (F0 m pc ls st0) := by
  obtain ⟨hx, hb, hml, hown, hts, hK⟩ := C
  have hF := gw_A_all hW hA
  refine va_calli (va_runV (C := K) ⟨hx, hb, hml, hown, hts⟩ hM ⟨gw_callB hts M hl hrc hrs hR, hts _ hi, hts _ hse⟩ ⟨gw_blind, va_recv hK hW.1 hc (gw_ato ht hci), gw_pre hK hW⟩ rfl hn hls hst (lv_room hro) hdg hcs) hW.2.2.1 (fun q _ h => hF q h) hF (fun r w t H1 locs1 ht hvm hw hB hz1 hk1 hS => ?_)
  cases hw
  exact kk H1 locs1 (gw_back hW hA ht hB hS)
theorem gw_callVl (C : gw_Cx p s m args c cc nL own D cA) (hW : gw_Wd D cA hs z A s.heap u H locs) (hA : ∀ q, s.heap.size ≤ q → A q) (hls : ls.size = nL) {y : MethodName} {b : ByteArray} {n k index ci t : Nat} {ret : Option FieldType} {rm : Room} {As : List Value} {K : String} {T : u_T} {N : Nat} {r0 : Int64 × gw_St}
    (M : gw_Mth y b n ret k) (hM : gw_Ml l y b n ret rm (.ref (hs t) :: As) D cA hs z u H.size r0) (hl : Cond.methodLink own index y ∈ gt_T) (hi : Cond.instanceMethod y ∈ gt_T) (hse : Cond.selects K y y ∈ gt_T) (ht : gw_ok z t ci) (hci : ci < 10) (hc : gt_cl[ci]? = some (K, T, N)) (hrc : rm.cells = 0) (hrs : rm.slots = 0) (hR : rm.frames + 1 ≤ R.frames ∧ 8 + (n + 11) + rm.locals ≤ R.locals) (hcs : cells ≤ R.cells ∧ slots ≤ R.slots) (hn : As.length = k) {st0 : List Value} (hst : st0 = As.reverse ++ .ref (hs t) :: rest) (hro : (rest.map fun v => v.category).sum ≤ 8) (hdg : decode cc pc = .ok (.invokevirtual index, 3))
    (kk : ∀ (H1 : Heap) (locs1 : List Loc), gw_Wd D cA hs z A s.heap r0.2 H1 locs1 → W p l e R s m args below meth c H1 locs1 cells slots Q (F0 m (pc + 3) ls (.long r0.1 :: rest))) : W p l e R s m args below meth c H locs cells slots Q (F0 m pc ls st0) := by
  obtain ⟨hx, hb, hml, hown, hts, hK⟩ := C
  have hF := gw_A_all hW hA
  refine va_calll (va_runV (C := K) ⟨hx, hb, hml, hown, hts⟩ hM ⟨gw_callB hts M hl hrc hrs hR, hts _ hi, hts _ hse⟩ ⟨gw_blind, va_recv hK hW.1 hc (gw_ato ht hci), gw_pre hK hW⟩ rfl hn hls hst (lv_room hro) hdg hcs) hW.2.2.1 (fun q _ h => hF q h) hF (fun r w t H1 locs1 ht hvm hw hB hz1 hk1 hS => ?_)
  cases hw
  exact kk H1 locs1 (gw_back hW hA ht hB hS)
theorem gw_callVv (C : gw_Cx p s m args c cc nL own D cA) (hW : gw_Wd D cA hs z A s.heap u H locs) (hA : ∀ q, s.heap.size ≤ q → A q) (hls : ls.size = nL) {y : MethodName} {b : ByteArray} {n k index ci t : Nat} {ret : Option FieldType} {rm : Room} {As : List Value} {K : String} {T : u_T} {N : Nat} {r0 : gw_St}
    (M : gw_Mth y b n ret k) (hM : gw_Mv l y b n ret rm (.ref (hs t) :: As) D cA hs z u H.size r0) (hl : Cond.methodLink own index y ∈ gt_T) (hi : Cond.instanceMethod y ∈ gt_T) (hse : Cond.selects K y y ∈ gt_T) (ht : gw_ok z t ci) (hci : ci < 10) (hc : gt_cl[ci]? = some (K, T, N)) (hrc : rm.cells = 0) (hrs : rm.slots = 0) (hR : rm.frames + 1 ≤ R.frames ∧ 8 + (n + 11) + rm.locals ≤ R.locals) (hcs : cells ≤ R.cells ∧ slots ≤ R.slots) (hn : As.length = k) {st0 : List Value} (hst : st0 = As.reverse ++ .ref (hs t) :: rest) (hro : (rest.map fun v => v.category).sum ≤ 8) (hdg : decode cc pc = .ok (.invokevirtual index, 3))
    (kk : ∀ (H1 : Heap) (locs1 : List Loc), gw_Wd D cA hs z A s.heap r0 H1 locs1 → W p l e R s m args below meth c H1 locs1 cells slots Q (F0 m (pc + 3) ls rest)) : W p l e R s m args below meth c H locs cells slots Q (F0 m pc ls st0) := by
  obtain ⟨hx, hb, hml, hown, hts, hK⟩ := C
  have hF := gw_A_all hW hA
  refine va_callv (va_runV (C := K) ⟨hx, hb, hml, hown, hts⟩ hM ⟨gw_callB hts M hl hrc hrs hR, hts _ hi, hts _ hse⟩ ⟨gw_blind, va_recv hK hW.1 hc (gw_ato ht hci), gw_pre hK hW⟩ rfl hn hls hst (lv_room hro) hdg hcs) hW.2.2.1 (fun q _ h => hF q h) hF (fun w t H1 locs1 ht hvm hw hB hz1 hk1 hS => ?_)
  cases hw
  exact kk H1 locs1 (gw_back hW hA ht hB hS)
theorem gw_callSi (C : gw_Cx p s m args c cc nL own D cA) (hW : gw_Wd D cA hs z A s.heap u H locs) (hA : ∀ q, s.heap.size ≤ q → A q) (hls : ls.size = nL) {y : MethodName} {b : ByteArray} {n k index : Nat} {ret : Option FieldType} {rm : Room} {As : List Value} {r0 : Int32 × gw_St}
    (M : gw_Mth y b n ret k) (hM : gw_Mi l y b n ret rm As D cA hs z u H.size r0) (hl : Cond.methodLink own index y ∈ gt_T) (hi : Cond.static y ∈ gt_T) (hrc : rm.cells = 0) (hrs : rm.slots = 0) (hR : rm.frames + 1 ≤ R.frames ∧ 8 + (n + 11) + rm.locals ≤ R.locals) (hcs : cells ≤ R.cells ∧ slots ≤ R.slots) (hn : As.length = k) {st0 : List Value} (hst : st0 = As.reverse ++ rest) (hro : (rest.map fun v => v.category).sum ≤ 8) (hdg : decode cc pc = .ok (.invokestatic index, 3))
    (kk : ∀ (H1 : Heap) (locs1 : List Loc), gw_Wd D cA hs z A s.heap r0.2 H1 locs1 → W p l e R s m args below meth c H1 locs1 cells slots Q (F0 m (pc + 3) ls (.int r0.1 :: rest))) : W p l e R s m args below meth c H locs cells slots Q (F0 m pc ls st0) := by
  obtain ⟨hx, hb, hml, hown, hts, hK⟩ := C
  have hF := gw_A_all hW hA
  refine va_calli (va_runS ⟨hx, hb, hml, hown, hts⟩ hM ⟨gw_callB hts M hl hrc hrs hR, hts _ hi⟩ ⟨gw_blind, gw_pre hK hW⟩ rfl hn hls hst (lv_room hro) hdg hcs) hW.2.2.1 (fun q _ h => hF q h) hF (fun r w t H1 locs1 ht hvm hw hB hz1 hk1 hS => ?_)
  cases hw
  exact kk H1 locs1 (gw_back hW hA ht hB hS)
theorem gw_callSl (C : gw_Cx p s m args c cc nL own D cA) (hW : gw_Wd D cA hs z A s.heap u H locs) (hA : ∀ q, s.heap.size ≤ q → A q) (hls : ls.size = nL) {y : MethodName} {b : ByteArray} {n k index : Nat} {ret : Option FieldType} {rm : Room} {As : List Value} {r0 : Int64 × gw_St}
    (M : gw_Mth y b n ret k) (hM : gw_Ml l y b n ret rm As D cA hs z u H.size r0) (hl : Cond.methodLink own index y ∈ gt_T) (hi : Cond.static y ∈ gt_T) (hrc : rm.cells = 0) (hrs : rm.slots = 0) (hR : rm.frames + 1 ≤ R.frames ∧ 8 + (n + 11) + rm.locals ≤ R.locals) (hcs : cells ≤ R.cells ∧ slots ≤ R.slots) (hn : As.length = k) {st0 : List Value} (hst : st0 = As.reverse ++ rest) (hro : (rest.map fun v => v.category).sum ≤ 8) (hdg : decode cc pc = .ok (.invokestatic index, 3))
    (kk : ∀ (H1 : Heap) (locs1 : List Loc), gw_Wd D cA hs z A s.heap r0.2 H1 locs1 → W p l e R s m args below meth c H1 locs1 cells slots Q (F0 m (pc + 3) ls (.long r0.1 :: rest))) : W p l e R s m args below meth c H locs cells slots Q (F0 m pc ls st0) := by
  obtain ⟨hx, hb, hml, hown, hts, hK⟩ := C
  have hF := gw_A_all hW hA
  refine va_calll (va_runS ⟨hx, hb, hml, hown, hts⟩ hM ⟨gw_callB hts M hl hrc hrs hR, hts _ hi⟩ ⟨gw_blind, gw_pre hK hW⟩ rfl hn hls hst (lv_room hro) hdg hcs) hW.2.2.1 (fun q _ h => hF q h) hF (fun r w t H1 locs1 ht hvm hw hB hz1 hk1 hS => ?_)
  cases hw
  exact kk H1 locs1 (gw_back hW hA ht hB hS)
theorem gw_callSv (C : gw_Cx p s m args c cc nL own D cA) (hW : gw_Wd D cA hs z A s.heap u H locs) (hA : ∀ q, s.heap.size ≤ q → A q) (hls : ls.size = nL) {y : MethodName} {b : ByteArray} {n k index : Nat} {ret : Option FieldType} {rm : Room} {As : List Value} {r0 : gw_St}
    (M : gw_Mth y b n ret k) (hM : gw_Mv l y b n ret rm As D cA hs z u H.size r0) (hl : Cond.methodLink own index y ∈ gt_T) (hi : Cond.static y ∈ gt_T) (hrc : rm.cells = 0) (hrs : rm.slots = 0) (hR : rm.frames + 1 ≤ R.frames ∧ 8 + (n + 11) + rm.locals ≤ R.locals) (hcs : cells ≤ R.cells ∧ slots ≤ R.slots) (hn : As.length = k) {st0 : List Value} (hst : st0 = As.reverse ++ rest) (hro : (rest.map fun v => v.category).sum ≤ 8) (hdg : decode cc pc = .ok (.invokestatic index, 3))
    (kk : ∀ (H1 : Heap) (locs1 : List Loc), gw_Wd D cA hs z A s.heap r0 H1 locs1 → W p l e R s m args below meth c H1 locs1 cells slots Q (F0 m (pc + 3) ls rest)) : W p l e R s m args below meth c H locs cells slots Q (F0 m pc ls st0) := by
  obtain ⟨hx, hb, hml, hown, hts, hK⟩ := C
  have hF := gw_A_all hW hA
  refine va_callv (va_runS ⟨hx, hb, hml, hown, hts⟩ hM ⟨gw_callB hts M hl hrc hrs hR, hts _ hi⟩ ⟨gw_blind, gw_pre hK hW⟩ rfl hn hls hst (lv_room hro) hdg hcs) hW.2.2.1 (fun q _ h => hF q h) hF (fun w t H1 locs1 ht hvm hw hB hz1 hk1 hS => ?_)
  cases hw
  exact kk H1 locs1 (gw_back hW hA ht hB hS)
/-- the ends of a method that makes nothing -/
theorem gw_iret (C : gw_Cx p s m args c cc nL own D cA) (hW : gw_Wd D cA hs z (gw_A hs z s.heap.size) s.heap u H locs) {v : Int32} (hr : meth.sig.returnType = some .int) (hlocks : meth.locks = false) (hdg : decode cc pc = .ok (.ireturn, 1)) : W p l e R s m args below meth c H locs 0 0 (MQ below (va_Qi (fun r w => (r, w) = (v, u)) (gw_At D cA hs z (gw_A hs z s.heap.size)) (gw_A hs z s.heap.size)) args s 0 0 (gw_A hs z s.heap.size)) (F0 m pc ls [.int v]) :=
  W.iret C.1 C.2.1 hr (fun t ht hw => ⟨⟨v, u, rfl, rfl, by rw [ht]; exact hW.1, va_K.moved hw.alike C.2.2.2.2.2, hW.2.1, hW.2.2.2⟩, hW.2.2.1.F ht⟩) hW.2.2.1.2.2 hdg hlocks
theorem gw_zret (C : gw_Cx p s m args c cc nL own D cA) (hW : gw_Wd D cA hs z (gw_A hs z s.heap.size) s.heap u H locs) {v : Int32} (hr : meth.sig.returnType = some .boolean) (hv : v &&& 1 = v) (hlocks : meth.locks = false) (hdg : decode cc pc = .ok (.ireturn, 1)) : W p l e R s m args below meth c H locs 0 0 (MQ below (va_Qi (fun r w => (r, w) = (v, u)) (gw_At D cA hs z (gw_A hs z s.heap.size)) (gw_A hs z s.heap.size)) args s 0 0 (gw_A hs z s.heap.size)) (F0 m pc ls [.int v]) :=
  W.zret C.1 C.2.1 hr (by show Value.int (v &&& 1) = _; rw [hv]) (fun t ht hw => ⟨⟨v, u, rfl, rfl, by rw [ht]; exact hW.1, va_K.moved hw.alike C.2.2.2.2.2, hW.2.1, hW.2.2.2⟩, hW.2.2.1.F ht⟩) hW.2.2.1.2.2 hdg hlocks
theorem gw_lret (C : gw_Cx p s m args c cc nL own D cA) (hW : gw_Wd D cA hs z (gw_A hs z s.heap.size) s.heap u H locs) {v : Int64} (hr : meth.sig.returnType = some .long) (hlocks : meth.locks = false) (hdg : decode cc pc = .ok (.lreturn, 1)) : W p l e R s m args below meth c H locs 0 0 (MQ below (va_Ql (fun r w => (r, w) = (v, u)) (gw_At D cA hs z (gw_A hs z s.heap.size)) (gw_A hs z s.heap.size)) args s 0 0 (gw_A hs z s.heap.size)) (F0 m pc ls [.long v]) :=
  W.lret C.1 C.2.1 hr (fun t ht hw => ⟨⟨v, u, rfl, rfl, by rw [ht]; exact hW.1, va_K.moved hw.alike C.2.2.2.2.2, hW.2.1, hW.2.2.2⟩, hW.2.2.1.F ht⟩) hW.2.2.1.2.2 hdg hlocks
theorem gw_vret (C : gw_Cx p s m args c cc nL own D cA) (hW : gw_Wd D cA hs z (gw_A hs z s.heap.size) s.heap u H locs) (hr : meth.sig.returnType = none) (hlocks : meth.locks = false) (hdg : decode cc pc = .ok (.return_, 1)) : W p l e R s m args below meth c H locs 0 0 (MQ below (va_Qv (fun w => w = u) (gw_At D cA hs z (gw_A hs z s.heap.size)) (gw_A hs z s.heap.size)) args s 0 0 (gw_A hs z s.heap.size)) (F0 m pc ls []) :=
  W.vret C.1 C.2.1 hr (fun t ht hw => ⟨⟨u, rfl, rfl, by rw [ht]; exact hW.1, va_K.moved hw.alike C.2.2.2.2.2, hW.2.1, hW.2.2.2⟩, hW.2.2.1.F ht⟩) hW.2.2.1.2.2 hdg hlocks
end GWC
/-- the start of a method that makes nothing -/
theorem gw_enter {l : Launch} {y : MethodName} {b : ByteArray} {n : Nat} {ret : Option FieldType} {rm : Room} {av : List Value} {D : va_G} {cA : Nat → ClassId} {hs : Nat → Nat} {z : gw_Sh} {u : gw_St} {sz : Nat} {Qc : Array Value → State → Outcome → State → Prop}
    (hy : plainName y.cls = true) (hn : (lg_sl av).length ≤ n)
    (body : ∀ (p : Program) (e : Env) (s : State) (m : MethodId) (below : List Frame) (meth : Method) (c : Code) (ls : Array Slot), s.heap.size = sz → gw_Cx p s m av.toArray c b n y.cls D cA → gw_Wd D cA hs z (gw_A hs z s.heap.size) s.heap u s.heap [] → meth.sig.returnType = ret → meth.locks = false → meth.name = y.name → lv_has ls n (lv_args 0 av) →
      W p l e rm s m av.toArray below meth c s.heap [] 0 0 (MQ below Qc av.toArray s 0 0 (gw_A hs z sz)) (F0 m 0 ls [])) : Met l y (gw_ws y b n ret) rm (va_Pc av (gw_Pre D cA hs z u sz)) Qc 0 0 (gw_A hs z sz) := by
  refine Met.ofW (cc := b) (maxL := n) (ret := ret) hy rfl ?_
  intro p e s m args below meth c s₁ B hml hv
  obtain ⟨rfl, hsz, hP, hK, hD0, hT⟩ := hv
  have hts := atoms_spec (ws := gw_ws y b n ret) B.pre
  have hl := lv_entry av (n := n) hn
  rw [lg_entry_eq]
  exact body p e s m below meth c _ hsz ⟨B.exec, B.bytes, hml, findClass_of_methodNamed B.named, fun w hw => hts w (List.mem_cons_of_mem _ hw), hK⟩ ⟨hP, gw_D_self hD0, va_S.rf, hT⟩ B.returns B.notSynchronized (name_of_methodNamed B.named B.method).1 hl
/-- the goals of a walk -/
abbrev gw_Gi (p : Program) (l : Launch) (e : Env) (R : Room) (s : State) (m : MethodId) (args : Array Value) (below : List Frame) (meth : Method) (c : Code) (D : va_G) (cA : Nat → ClassId) (hs : Nat → Nat) (z : gw_Sh) (r0 : Int32 × gw_St) (H : Heap) (locs : List Loc) (ls : Array Slot) (pc : Nat) (st : List Value) : Prop := W p l e R s m args below meth c H locs 0 0 (MQ below (va_Qi (fun r w => (r, w) = r0) (gw_At D cA hs z (gw_A hs z s.heap.size)) (gw_A hs z s.heap.size)) args s 0 0 (gw_A hs z s.heap.size)) (F0 m pc ls st)
abbrev gw_Gl (p : Program) (l : Launch) (e : Env) (R : Room) (s : State) (m : MethodId) (args : Array Value) (below : List Frame) (meth : Method) (c : Code) (D : va_G) (cA : Nat → ClassId) (hs : Nat → Nat) (z : gw_Sh) (r0 : Int64 × gw_St) (H : Heap) (locs : List Loc) (ls : Array Slot) (pc : Nat) (st : List Value) : Prop := W p l e R s m args below meth c H locs 0 0 (MQ below (va_Ql (fun r w => (r, w) = r0) (gw_At D cA hs z (gw_A hs z s.heap.size)) (gw_A hs z s.heap.size)) args s 0 0 (gw_A hs z s.heap.size)) (F0 m pc ls st)
abbrev gw_Gv (p : Program) (l : Launch) (e : Env) (R : Room) (s : State) (m : MethodId) (args : Array Value) (below : List Frame) (meth : Method) (c : Code) (D : va_G) (cA : Nat → ClassId) (hs : Nat → Nat) (z : gw_Sh) (r0 : gw_St) (H : Heap) (locs : List Loc) (ls : Array Slot) (pc : Nat) (st : List Value) : Prop := W p l e R s m args below meth c H locs 0 0 (MQ below (va_Qv (fun w => w = r0) (gw_At D cA hs z (gw_A hs z s.heap.size)) (gw_A hs z s.heap.size)) args s 0 0 (gw_A hs z s.heap.size)) (F0 m pc ls st)
abbrev gw_Wx (D : va_G) (cA : Nat → ClassId) (hs : Nat → Nat) (z : gw_Sh) (s : State) (u : gw_St) (H : Heap) (locs : List Loc) : Prop := gw_Wd D cA hs z (gw_A hs z s.heap.size) s.heap u H locs
theorem gw_swo {x : Int32} {lo hi : Int} (h : ∀ k : Int, lo ≤ k → k ≤ hi → x ≠ Int32.ofInt k) : x.toInt < lo ∨ hi < x.toInt := by
  by_cases h1 : x.toInt < lo
  · exact Or.inl h1
  · by_cases h2 : hi < x.toInt
    · exact Or.inr h2
    · exact absurd (Int32.ofInt_toInt x).symm (h _ (by omega) (by omega))
/-- the words of the functions that follow the bytecode -/
def gf_nm {α β : Type} (a : α) (f : α → Option β) : Option β := f a
theorem gf_nm_ok {α β : Type} {a b : α} {f : α → Option β} {r : β} (e : b = a) (h : gf_nm a f = some r) : f b = some r := by
  subst e
  exact h
def gf_cl {α β : Type} (x : Option (α × gw_St)) (f : α → gw_St → Option β) : Option β := match x with
  | none => none
  | some (a, w) => f a w
theorem gf_cl_ok {α β : Type} {x : Option (α × gw_St)} {f : α → gw_St → Option β} {r : β} (h : gf_cl x f = some r) : ∃ a w, x = some (a, w) ∧ f a w = some r := by
  cases x with
  | none => cases h
  | some q =>
    obtain ⟨a, w⟩ := q
    exact ⟨a, w, rfl, h⟩
def gf_nn {β : Type} (r : Nat) (f : Nat → Option β) : Option β := match r with
  | 0 => none
  | q + 1 => f q
theorem gf_nn_ok {β : Type} {r : Nat} {f : Nat → Option β} {b : β} (h : gf_nn r f = some b) : ∃ q, r = q + 1 ∧ f q = some b := by
  cases r with
  | zero => cases h
  | succ q => exact ⟨q, rfl, h⟩
theorem gf_bd_ok {α β : Type} {x : Option α} {f : α → Option β} {b : β} (h : x.bind f = some b) : ∃ a, x = some a ∧ f a = some b := by
  cases x with
  | none => cases h
  | some a => exact ⟨a, rfl, h⟩
theorem gf_if_ok {β : Type} {c : Prop} {_ : Decidable c} {x : Option β} {b : β} (h : (if c then none else x) = some b) : ¬ c ∧ x = some b := by
  by_cases hc : c
  · rw [if_pos hc] at h; cases h
  · rw [if_neg hc] at h; exact ⟨hc, h⟩
theorem gf_t {β : Type} {c : Prop} {_ : Decidable c} {x y : Option β} {b : β} (hc : c) (h : (if c then x else y) = some b) : x = some b := by
  rw [if_pos hc] at h; exact h
theorem gf_f {β : Type} {c : Prop} {_ : Decidable c} {x y : Option β} {b : β} (hc : ¬ c) (h : (if c then x else y) = some b) : y = some b := by
  rw [if_neg hc] at h; exact h
