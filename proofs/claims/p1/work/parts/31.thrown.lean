/-! contracts of calls that throw -/
def gw_PreX (D : va_G) (cA : Nat → ClassId) (hs : Nat → Nat) (z : gw_Sh) (u : gw_St) (sz : Nat) : State → Prop := fun U => gw_Pre D cA hs z u sz U ∧ xt_Zs (gw_A hs z sz) U U.heap
def gw_Mt (l : Launch) (y : MethodName) (b : ByteArray) (n : Nat) (ret : Option FieldType) (rm : Room) (av : List Value) (D : va_G) (cA : Nat → ClassId) (hs : Nat → Nat) (z : gw_Sh) (u : gw_St) (sz k : Nat) (u1 : gw_St) : Prop :=
  MetFree l y (headSpec (gw_ws y b n ret) rm) (va_Pc av (gw_PreX D cA hs z u sz)) (fun _ _ _ _ _ => True) (fun _ st o t => ∃ x, o = .threw x ∧ st.heap.size ≤ x ∧ xt_is k x t ∧ gw_At D cA hs z (gw_A hs z sz) u1 t ∧ va_F (gw_A hs z sz) st t ∧ st.WarmedH t.vm ∧ ∃ L, st.sameButNew ({ t with vm := st.vm } : State) L 1 6 ∧ ∀ q ∈ L, gw_A hs z sz q.base)
theorem xt_enter {l : Launch} {y : MethodName} {b : ByteArray} {n : Nat} {ret : Option FieldType} {rm : Room} {av : List Value} {D : va_G} {cA : Nat → ClassId} {hs : Nat → Nat} {z : gw_Sh} {u u1 : gw_St} {sz k : Nat}
    (hfl : l.flags = pinnedFlags ++ [noTraceFlag]) (hy : plainName y.cls = true) (hn : (lg_sl av).length ≤ n)
    (body : ∀ (p : Program) (e : Env) (s : State) (m : MethodId) (below : List Frame) (meth : Method) (c : Code) (ls : Array Slot), s.heap.size = sz → gw_Cx p s m av.toArray c b n y.cls D cA → gw_Wd D cA hs z (gw_A hs z s.heap.size) s.heap u s.heap [] → meth.sig.returnType = ret → meth.locks = false → c.exceptionTable.isEmpty = true → xt_Zs (gw_A hs z s.heap.size) s s.heap → e.platform.stackTraces = false → lv_has ls n (lv_args 0 av) →
      W p l e rm s m av.toArray below meth c s.heap [] 0 0 (xt_MQ below D cA hs z (gw_A hs z s.heap.size) s k u1 1 6) (F0 m 0 ls [])) : gw_Mt l y b n ret rm av D cA hs z u sz k u1 := by
  refine MetFree.of_bodyS (code := b) (maxLocals := n) (ret := ret) hy ?_ ?_
  · intro args s m h hn
    obtain ⟨meth, c, h1, h2, h3, h4, h5, h6, -, -⟩ := Cond.code_spec hn (atoms_spec (ws := gw_ws y b n ret) h _ List.mem_cons_self)
    exact ⟨meth, c, h1, h2, h3, h4, h5, h6⟩
  · intro p e s m args below meth c s₁ B hml hv _
    obtain ⟨rfl, ⟨hsz, hP, hK, hD0, hT⟩, hZ⟩ := hv
    subst hsz
    have hts := atoms_spec (ws := gw_ws y b n ret) B.pre
    have hl := lv_entry av (n := n) hn
    have hh0 : s₁.heap = s.heap := by rw [B.state]; rfl
    have K := body p e s m below meth c _ rfl ⟨B.exec, B.bytes, hml, findClass_of_methodNamed B.named, fun w hw => hts w (List.mem_cons_of_mem _ hw), hK⟩ ⟨hP, gw_D_self hD0, va_S.rf, hT⟩ B.returns B.notSynchronized (B.noHandlers (hts _ List.mem_cons_self)) hZ (Launch.traces_off hfl B.admits) hl
    rw [← lg_entry_eq] at K
    obtain ⟨t, a1, x, b1, b2, b3, b4, b5, b6, b7, b8⟩ := K s₁ hh0 (Stand.of_body B)
    exact ⟨t, .threw x, a1, b1, b2, x, rfl, b3, b4, b5, b6, b7, b8⟩
section XTD
variable {p : Program} {l : Launch} {e : Env} {R : Room} {s : State} {m : MethodId} {args : Array Value} {below : List Frame} {meth : Method} {c : Code} {T : State} {locs : List Loc} {cells slots : Nat}
variable {D : va_G} {cA : Nat → ClassId} {hs : Nat → Nat} {z : gw_Sh} {A : Nat → Prop} {u u1 : gw_St} {own : String}
theorem xt_down (X : Stand p l e R s m args below meth c T locs cells slots) {y : MethodName} {b : ByteArray} {n k : Nat} {ret : Option FieldType} {rm : Room} {av : List Value} (hts : ∀ w ∈ gt_T, w.before args s = true) (hc : Cond.code y b n ret ∈ gt_T) (hi : Cond.initialized y.cls ∈ gt_T) (hM : gw_Mt l y b n ret rm av D cA hs z u T.heap.size k u1) (hrc : rm.cells = 1) (hrs : rm.slots = 6) (hfr : rm.frames + 1 ≤ R.frames) (hlo : 8 + (n + 11) + rm.locals ≤ R.locals) (hcs : cells + 1 ≤ R.cells ∧ slots + 6 ≤ R.slots)
    {g : JFrame} (hg : g.method = m) (hsize : g.locals.size = c.maxLocals) {ig : Instr} {len : Nat} (hdg : decode c.code g.pc = .ok (ig, len)) (hWs : 2 * g.monitorRoom + (g.stack.map fun v => v.category).sum ≤ 8) {mk : MethodId} (hn : T.methodNamed? y = some mk) (hpre : gw_PreX D cA hs z u T.heap.size T) :
    ∃ (x : Nat) (T' : State) (L : List Loc), Stand p l e R s m args below meth c T' (locs ++ L) (cells + 1) (slots + 6) ∧ (∀ q ∈ L, gw_A hs z T.heap.size q.base) ∧ T.heap.size ≤ x ∧ xt_is k x T' ∧ gw_At D cA hs z (gw_A hs z T.heap.size) u1 T' ∧ T.heap.size ≤ T'.heap.size ∧ (∀ q : Nat, q < T.heap.size → ¬ gw_A hs z T.heap.size q → T'.heap[q]? = T.heap[q]?) ∧
      Steps p.tables e below (doInvoke e (T.setTop g) [] mk av.toArray).1 ((T'.setTop g).pushFrame (.throwing x)) := by
  have hpay := gw_pay hts hc
  obtain ⟨methY, cY, hmY, hcY, -, hlY, -, -, -, -⟩ := Cond.code_spec hn (hpay _ List.mem_cons_self av.toArray T X.warmed)
  obtain ⟨kY, hkY, -⟩ := className_of_methodNamed hn
  have hinitY : kY.init = .initialized := Cond.initialized_spec (args := av.toArray) (findClass_of_methodNamed hn) hkY (word_at X.warmed (gt_good _ hi) (hts _ hi))
  have h : At T g.method c below := by rw [hg]; exact X.here
  have happ : (headSpec (gw_ws y b n ret) rm).appliesLoose y e.platform (T.calling g mk av.toArray) = true :=
    Spec.appliesLoose_calling (g := g) h hdg hn hkY hinitY
      (X.room_calling (g := g) (R' := rm) hsize hmY hcY hfr (by rw [hlY]; omega) (by rw [hrc]; exact hcs.1) (by rw [hrs]; exact hcs.2)) (atoms_intro fun w hw => hpay w hw _ _ X.warmed)
  obtain ⟨mid, hmid⟩ := h.above
  have hfr2 : (T.setTop g).frames = (.java g :: mid) ++ below := by rw [State.frames_setTop' g h.top, hmid]; rfl
  have hP : va_Pc av (gw_PreX D cA hs z u T.heap.size) av.toArray (T.calling g mk av.toArray) := by
    obtain ⟨⟨q1, qP, qK, qD, qT⟩, qZ⟩ := hpre
    exact ⟨rfl, ⟨q1, qP, va_K.moved (u := T) (U := T.calling g mk av.toArray) (Vm.Alike.refl T.vm) qK, qD, qT⟩, xt_Zs.moved (u := T) (U := T.calling g mk av.toArray) (State.WarmedH.refl T) qZ⟩
  obtain ⟨o, s₂, hsteps, -, hend, hq⟩ := Steps.callFree hM p X.admits X.cas X.clock (acts := []) hfr2 happ hP trivial
  obtain ⟨x, rfl, q1, q2, q3, q4, q5, L, q6, q7⟩ := hq
  have hend2 : Ended s₂ (.java g :: below) (.threw x) := by
    have e1 : (T.setTop g).frames = .java g :: below := by rw [State.frames_setTop' g h.top, X.tail]
    rw [e1] at hend
    exact hend
  obtain ⟨T', X', -, -, ht⟩ := X.outOfThrown hg hend2 q5 q6
  have hh : s₂.heap = T'.heap := by rw [ht]; exact Stand.throwing_heap T' g x
  have hv : s₂.vm = T'.vm := by rw [ht]; exact Stand.throwing_vm T' g x
  refine ⟨x, T', L, X', q7, q1, ?_, ?_, ?_, ?_, ?_⟩
  · obtain ⟨ce, c1, c2, c3⟩ := q2
    exact ⟨ce, by rw [← hh]; exact c1, c2, by rw [← hv]; exact c3⟩
  · obtain ⟨b1, b2, b3, b4⟩ := q3
    exact ⟨by rw [← hh]; exact b1, va_K.moved (u := s₂) (U := T') (by rw [hv]; exact Vm.Alike.refl _) b2, b3, b4⟩
  · rw [← hh]; exact q4.1
  · intro q h1 h2
    rw [← hh]
    exact q4.2 q h1 h2
  · rw [← ht]
    exact hsteps
end XTD
